theorem zy_T_writeWord : zy y_T_writeWord b_T_writeWord 5 none 2 := ⟨zmem 414 (by decide +kernel) (by decide +kernel), zmem 63 (by decide +kernel) (by decide +kernel), by decide +kernel⟩
theorem zv_T_writeWord : Cond.instanceMethod y_T_writeWord ∈ ztb ∧ Cond.selects y_T_writeWord.cls y_T_writeWord y_T_writeWord ∈ ztb := ⟨zmem 412 (by decide +kernel) (by decide +kernel), zmem 413 (by decide +kernel) (by decide +kernel)⟩
theorem d_T_writeWord_0 : decode b_T_writeWord 0 = .ok (.iload_n 3, 1) := by decide +kernel
theorem d_T_writeWord_1 : decode b_T_writeWord 1 = .ok (.iconst 1, 1) := by decide +kernel
theorem d_T_writeWord_2 : decode b_T_writeWord 2 = .ok (.isub, 1) := by decide +kernel
theorem d_T_writeWord_3 : decode b_T_writeWord 3 = .ok (.istore 4, 2) := by decide +kernel
theorem d_T_writeWord_5 : decode b_T_writeWord 5 = .ok (.iload 4, 2) := by decide +kernel
theorem d_T_writeWord_7 : decode b_T_writeWord 7 = .ok (.ifCond .lt 21, 3) := by decide +kernel
theorem d_T_writeWord_10 : decode b_T_writeWord 10 = .ok (.aload_n 0, 1) := by decide +kernel
theorem d_T_writeWord_11 : decode b_T_writeWord 11 = .ok (.lload_n 1, 1) := by decide +kernel
theorem d_T_writeWord_12 : decode b_T_writeWord 12 = .ok (.bipush 8, 2) := by decide +kernel
theorem d_T_writeWord_14 : decode b_T_writeWord 14 = .ok (.iload 4, 2) := by decide +kernel
theorem d_T_writeWord_16 : decode b_T_writeWord 16 = .ok (.imul, 1) := by decide +kernel
theorem d_T_writeWord_17 : decode b_T_writeWord 17 = .ok (.lshr, 1) := by decide +kernel
theorem d_T_writeWord_18 : decode b_T_writeWord 18 = .ok (.l2i, 1) := by decide +kernel
theorem d_T_writeWord_19 : decode b_T_writeWord 19 = .ok (.invokevirtual 37, 3) := by decide +kernel
theorem d_T_writeWord_22 : decode b_T_writeWord 22 = .ok (.iinc 4 (-1), 3) := by decide +kernel
theorem d_T_writeWord_25 : decode b_T_writeWord 25 = .ok (.goto (-20), 3) := by decide +kernel
theorem d_T_writeWord_28 : decode b_T_writeWord 28 = .ok (.return_, 1) := by decide +kernel
theorem zy_T_writeNumber : zy y_T_writeNumber b_T_writeNumber 7 none 2 := ⟨zmem 476 (by decide +kernel) (by decide +kernel), zmem 63 (by decide +kernel) (by decide +kernel), by decide +kernel⟩
theorem zv_T_writeNumber : Cond.instanceMethod y_T_writeNumber ∈ ztb ∧ Cond.selects y_T_writeNumber.cls y_T_writeNumber y_T_writeNumber ∈ ztb := ⟨zmem 474 (by decide +kernel) (by decide +kernel), zmem 475 (by decide +kernel) (by decide +kernel)⟩
theorem d_T_writeNumber_0 : decode b_T_writeNumber 0 = .ok (.iload_n 3, 1) := by decide +kernel
theorem d_T_writeNumber_1 : decode b_T_writeNumber 1 = .ok (.ifCond .ne 10, 3) := by decide +kernel
theorem d_T_writeNumber_4 : decode b_T_writeNumber 4 = .ok (.lload_n 1, 1) := by decide +kernel
theorem d_T_writeNumber_5 : decode b_T_writeNumber 5 = .ok (.invokestatic 41, 3) := by decide +kernel
theorem d_T_writeNumber_8 : decode b_T_writeNumber 8 = .ok (.goto 4, 3) := by decide +kernel
theorem d_T_writeNumber_11 : decode b_T_writeNumber 11 = .ok (.iload_n 3, 1) := by decide +kernel
theorem d_T_writeNumber_12 : decode b_T_writeNumber 12 = .ok (.istore 4, 2) := by decide +kernel
theorem d_T_writeNumber_14 : decode b_T_writeNumber 14 = .ok (.iload 4, 2) := by decide +kernel
theorem d_T_writeNumber_16 : decode b_T_writeNumber 16 = .ok (.bipush 8, 2) := by decide +kernel
theorem d_T_writeNumber_18 : decode b_T_writeNumber 18 = .ok (.if_icmp .ne 9, 3) := by decide +kernel
theorem d_T_writeNumber_21 : decode b_T_writeNumber 21 = .ok (.ldc2_w 45, 3) := by decide +kernel
theorem d_T_writeNumber_24 : decode b_T_writeNumber 24 = .ok (.goto 8, 3) := by decide +kernel
theorem d_T_writeNumber_27 : decode b_T_writeNumber 27 = .ok (.iload 4, 2) := by decide +kernel
theorem d_T_writeNumber_29 : decode b_T_writeNumber 29 = .ok (.iconst 1, 1) := by decide +kernel
theorem d_T_writeNumber_30 : decode b_T_writeNumber 30 = .ok (.ishr, 1) := by decide +kernel
theorem d_T_writeNumber_31 : decode b_T_writeNumber 31 = .ok (.i2l, 1) := by decide +kernel
theorem d_T_writeNumber_32 : decode b_T_writeNumber 32 = .ok (.lstore 5, 2) := by decide +kernel
theorem d_T_writeNumber_34 : decode b_T_writeNumber 34 = .ok (.aload_n 0, 1) := by decide +kernel
theorem d_T_writeNumber_35 : decode b_T_writeNumber 35 = .ok (.lload_n 1, 1) := by decide +kernel
theorem d_T_writeNumber_36 : decode b_T_writeNumber 36 = .ok (.lload 5, 2) := by decide +kernel
theorem d_T_writeNumber_38 : decode b_T_writeNumber 38 = .ok (.bipush 8, 2) := by decide +kernel
theorem d_T_writeNumber_40 : decode b_T_writeNumber 40 = .ok (.iload 4, 2) := by decide +kernel
theorem d_T_writeNumber_42 : decode b_T_writeNumber 42 = .ok (.imul, 1) := by decide +kernel
theorem d_T_writeNumber_43 : decode b_T_writeNumber 43 = .ok (.iconst 2, 1) := by decide +kernel
theorem d_T_writeNumber_44 : decode b_T_writeNumber 44 = .ok (.isub, 1) := by decide +kernel
theorem d_T_writeNumber_45 : decode b_T_writeNumber 45 = .ok (.lshl, 1) := by decide +kernel
theorem d_T_writeNumber_46 : decode b_T_writeNumber 46 = .ok (.lor, 1) := by decide +kernel
theorem d_T_writeNumber_47 : decode b_T_writeNumber 47 = .ok (.iload 4, 2) := by decide +kernel
theorem d_T_writeNumber_49 : decode b_T_writeNumber 49 = .ok (.invokevirtual 47, 3) := by decide +kernel
theorem d_T_writeNumber_52 : decode b_T_writeNumber 52 = .ok (.return_, 1) := by decide +kernel
theorem zy_T_writeBytes : zy y_T_writeBytes b_T_writeBytes 5 none 3 := ⟨zmem 773 (by decide +kernel) (by decide +kernel), zmem 63 (by decide +kernel) (by decide +kernel), by decide +kernel⟩
theorem zv_T_writeBytes : Cond.instanceMethod y_T_writeBytes ∈ ztb ∧ Cond.selects y_T_writeBytes.cls y_T_writeBytes y_T_writeBytes ∈ ztb := ⟨zmem 771 (by decide +kernel) (by decide +kernel), zmem 772 (by decide +kernel) (by decide +kernel)⟩
theorem d_T_writeBytes_0 : decode b_T_writeBytes 0 = .ok (.iload_n 2, 1) := by decide +kernel
theorem d_T_writeBytes_1 : decode b_T_writeBytes 1 = .ok (.istore 4, 2) := by decide +kernel
theorem d_T_writeBytes_3 : decode b_T_writeBytes 3 = .ok (.iload 4, 2) := by decide +kernel
theorem d_T_writeBytes_5 : decode b_T_writeBytes 5 = .ok (.ifCond .lt 30, 3) := by decide +kernel
theorem d_T_writeBytes_8 : decode b_T_writeBytes 8 = .ok (.iload 4, 2) := by decide +kernel
theorem d_T_writeBytes_10 : decode b_T_writeBytes 10 = .ok (.iload_n 3, 1) := by decide +kernel
theorem d_T_writeBytes_11 : decode b_T_writeBytes 11 = .ok (.if_icmp .ge 24, 3) := by decide +kernel
theorem d_T_writeBytes_14 : decode b_T_writeBytes 14 = .ok (.iload 4, 2) := by decide +kernel
theorem d_T_writeBytes_16 : decode b_T_writeBytes 16 = .ok (.aload_n 1, 1) := by decide +kernel
theorem d_T_writeBytes_17 : decode b_T_writeBytes 17 = .ok (.arraylength, 1) := by decide +kernel
theorem d_T_writeBytes_18 : decode b_T_writeBytes 18 = .ok (.if_icmp .ge 17, 3) := by decide +kernel
theorem d_T_writeBytes_21 : decode b_T_writeBytes 21 = .ok (.aload_n 0, 1) := by decide +kernel
theorem d_T_writeBytes_22 : decode b_T_writeBytes 22 = .ok (.aload_n 1, 1) := by decide +kernel
theorem d_T_writeBytes_23 : decode b_T_writeBytes 23 = .ok (.iload 4, 2) := by decide +kernel
theorem d_T_writeBytes_25 : decode b_T_writeBytes 25 = .ok (.baload, 1) := by decide +kernel
theorem d_T_writeBytes_26 : decode b_T_writeBytes 26 = .ok (.invokevirtual 37, 3) := by decide +kernel
theorem d_T_writeBytes_29 : decode b_T_writeBytes 29 = .ok (.iinc 4 1, 3) := by decide +kernel
theorem d_T_writeBytes_32 : decode b_T_writeBytes 32 = .ok (.goto (-29), 3) := by decide +kernel
theorem d_T_writeBytes_35 : decode b_T_writeBytes 35 = .ok (.return_, 1) := by decide +kernel
theorem zy_W_feed : zy y_W_feed b_W_feed 4 (some .int) 2 := ⟨zmem 339 (by decide +kernel) (by decide +kernel), zmem 62 (by decide +kernel) (by decide +kernel), by decide +kernel⟩
theorem zv_W_feed : Cond.instanceMethod y_W_feed ∈ ztb ∧ Cond.selects y_W_feed.cls y_W_feed y_W_feed ∈ ztb := ⟨zmem 337 (by decide +kernel) (by decide +kernel), zmem 338 (by decide +kernel) (by decide +kernel)⟩
theorem d_W_feed_0 : decode b_W_feed 0 = .ok (.iload_n 3, 1) := by decide +kernel
theorem d_W_feed_1 : decode b_W_feed 1 = .ok (.iconst 1, 1) := by decide +kernel
theorem d_W_feed_2 : decode b_W_feed 2 = .ok (.if_icmp .lt 9, 3) := by decide +kernel
theorem d_W_feed_5 : decode b_W_feed 5 = .ok (.iload_n 3, 1) := by decide +kernel
theorem d_W_feed_6 : decode b_W_feed 6 = .ok (.bipush 8, 2) := by decide +kernel
theorem d_W_feed_8 : decode b_W_feed 8 = .ok (.if_icmp .le 13, 3) := by decide +kernel
theorem d_W_feed_11 : decode b_W_feed 11 = .ok (.new 60, 3) := by decide +kernel
theorem d_W_feed_14 : decode b_W_feed 14 = .ok (.dup, 1) := by decide +kernel
theorem d_W_feed_15 : decode b_W_feed 15 = .ok (.ldc 62, 2) := by decide +kernel
theorem d_W_feed_17 : decode b_W_feed 17 = .ok (.invokespecial 64, 3) := by decide +kernel
theorem d_W_feed_20 : decode b_W_feed 20 = .ok (.athrow, 1) := by decide +kernel
theorem d_W_feed_21 : decode b_W_feed 21 = .ok (.aload_n 0, 1) := by decide +kernel
theorem d_W_feed_22 : decode b_W_feed 22 = .ok (.getfield 12, 3) := by decide +kernel
theorem d_W_feed_25 : decode b_W_feed 25 = .ok (.invokevirtual 67, 3) := by decide +kernel
theorem d_W_feed_28 : decode b_W_feed 28 = .ok (.aload_n 0, 1) := by decide +kernel
theorem d_W_feed_29 : decode b_W_feed 29 = .ok (.getfield 12, 3) := by decide +kernel
theorem d_W_feed_32 : decode b_W_feed 32 = .ok (.lload_n 1, 1) := by decide +kernel
theorem d_W_feed_33 : decode b_W_feed 33 = .ok (.iload_n 3, 1) := by decide +kernel
theorem d_W_feed_34 : decode b_W_feed 34 = .ok (.invokevirtual 70, 3) := by decide +kernel
theorem d_W_feed_37 : decode b_W_feed 37 = .ok (.aload_n 0, 1) := by decide +kernel
theorem d_W_feed_38 : decode b_W_feed 38 = .ok (.invokevirtual 74, 3) := by decide +kernel
theorem d_W_feed_41 : decode b_W_feed 41 = .ok (.ireturn, 1) := by decide +kernel
theorem zy_W_number : zy y_W_number b_W_number 4 (some .int) 2 := ⟨zmem 458 (by decide +kernel) (by decide +kernel), zmem 62 (by decide +kernel) (by decide +kernel), by decide +kernel⟩
theorem zv_W_number : Cond.instanceMethod y_W_number ∈ ztb ∧ Cond.selects y_W_number.cls y_W_number y_W_number ∈ ztb := ⟨zmem 456 (by decide +kernel) (by decide +kernel), zmem 457 (by decide +kernel) (by decide +kernel)⟩
theorem d_W_number_0 : decode b_W_number 0 = .ok (.lload_n 1, 1) := by decide +kernel
theorem d_W_number_1 : decode b_W_number 1 = .ok (.invokestatic 78, 3) := by decide +kernel
theorem d_W_number_4 : decode b_W_number 4 = .ok (.ifCond .eq 26, 3) := by decide +kernel
theorem d_W_number_7 : decode b_W_number 7 = .ok (.iload_n 3, 1) := by decide +kernel
theorem d_W_number_8 : decode b_W_number 8 = .ok (.ifCond .eq 10, 3) := by decide +kernel
theorem d_W_number_11 : decode b_W_number 11 = .ok (.iload_n 3, 1) := by decide +kernel
theorem d_W_number_12 : decode b_W_number 12 = .ok (.invokestatic 82, 3) := by decide +kernel
theorem d_W_number_15 : decode b_W_number 15 = .ok (.ifCond .eq 15, 3) := by decide +kernel
theorem d_W_number_18 : decode b_W_number 18 = .ok (.iload_n 3, 1) := by decide +kernel
theorem d_W_number_19 : decode b_W_number 19 = .ok (.ifCond .eq 21, 3) := by decide +kernel
theorem d_W_number_22 : decode b_W_number 22 = .ok (.iload_n 3, 1) := by decide +kernel
theorem d_W_number_23 : decode b_W_number 23 = .ok (.lload_n 1, 1) := by decide +kernel
theorem d_W_number_24 : decode b_W_number 24 = .ok (.invokestatic 86, 3) := by decide +kernel
theorem d_W_number_27 : decode b_W_number 27 = .ok (.if_icmp .ge 13, 3) := by decide +kernel
theorem d_W_number_30 : decode b_W_number 30 = .ok (.new 60, 3) := by decide +kernel
theorem d_W_number_33 : decode b_W_number 33 = .ok (.dup, 1) := by decide +kernel
theorem d_W_number_34 : decode b_W_number 34 = .ok (.ldc 90, 2) := by decide +kernel
theorem d_W_number_36 : decode b_W_number 36 = .ok (.invokespecial 64, 3) := by decide +kernel
theorem d_W_number_39 : decode b_W_number 39 = .ok (.athrow, 1) := by decide +kernel
theorem d_W_number_40 : decode b_W_number 40 = .ok (.aload_n 0, 1) := by decide +kernel
theorem d_W_number_41 : decode b_W_number 41 = .ok (.getfield 12, 3) := by decide +kernel
theorem d_W_number_44 : decode b_W_number 44 = .ok (.invokevirtual 67, 3) := by decide +kernel
theorem d_W_number_47 : decode b_W_number 47 = .ok (.aload_n 0, 1) := by decide +kernel
theorem d_W_number_48 : decode b_W_number 48 = .ok (.getfield 12, 3) := by decide +kernel
theorem d_W_number_51 : decode b_W_number 51 = .ok (.lload_n 1, 1) := by decide +kernel
theorem d_W_number_52 : decode b_W_number 52 = .ok (.iload_n 3, 1) := by decide +kernel
theorem d_W_number_53 : decode b_W_number 53 = .ok (.invokevirtual 92, 3) := by decide +kernel
theorem d_W_number_56 : decode b_W_number 56 = .ok (.aload_n 0, 1) := by decide +kernel
theorem d_W_number_57 : decode b_W_number 57 = .ok (.invokevirtual 74, 3) := by decide +kernel
theorem d_W_number_60 : decode b_W_number 60 = .ok (.ireturn, 1) := by decide +kernel
theorem zy_W_draft : zy y_W_draft b_W_draft 1 none 0 := ⟨zmem 323 (by decide +kernel) (by decide +kernel), zmem 62 (by decide +kernel) (by decide +kernel), by decide +kernel⟩
theorem zv_W_draft : Cond.instanceMethod y_W_draft ∈ ztb ∧ Cond.selects y_W_draft.cls y_W_draft y_W_draft ∈ ztb := ⟨zmem 321 (by decide +kernel) (by decide +kernel), zmem 322 (by decide +kernel) (by decide +kernel)⟩
theorem d_W_draft_0 : decode b_W_draft 0 = .ok (.aload_n 0, 1) := by decide +kernel
theorem d_W_draft_1 : decode b_W_draft 1 = .ok (.getfield 49, 3) := by decide +kernel
theorem d_W_draft_4 : decode b_W_draft 4 = .ok (.invokevirtual 200, 3) := by decide +kernel
theorem d_W_draft_7 : decode b_W_draft 7 = .ok (.return_, 1) := by decide +kernel
theorem zy_D_writeHeader : zy y_D_writeHeader b_D_writeHeader 7 none 6 := ⟨zmem 852 (by decide +kernel) (by decide +kernel), zmem 68 (by decide +kernel) (by decide +kernel), by decide +kernel⟩
theorem zv_D_writeHeader : Cond.instanceMethod y_D_writeHeader ∈ ztb ∧ Cond.selects y_D_writeHeader.cls y_D_writeHeader y_D_writeHeader ∈ ztb := ⟨zmem 850 (by decide +kernel) (by decide +kernel), zmem 851 (by decide +kernel) (by decide +kernel)⟩
theorem d_D_writeHeader_0 : decode b_D_writeHeader 0 = .ok (.iload_n 2, 1) := by decide +kernel
theorem d_D_writeHeader_1 : decode b_D_writeHeader 1 = .ok (.iconst 4, 1) := by decide +kernel
theorem d_D_writeHeader_2 : decode b_D_writeHeader 2 = .ok (.if_icmp .ne 23, 3) := by decide +kernel
theorem d_D_writeHeader_5 : decode b_D_writeHeader 5 = .ok (.aload_n 1, 1) := by decide +kernel
theorem d_D_writeHeader_6 : decode b_D_writeHeader 6 = .ok (.bipush 64, 2) := by decide +kernel
theorem d_D_writeHeader_8 : decode b_D_writeHeader 8 = .ok (.iload_n 3, 1) := by decide +kernel
theorem d_D_writeHeader_9 : decode b_D_writeHeader 9 = .ok (.iadd, 1) := by decide +kernel
theorem d_D_writeHeader_10 : decode b_D_writeHeader 10 = .ok (.invokevirtual 57, 3) := by decide +kernel
theorem d_D_writeHeader_13 : decode b_D_writeHeader 13 = .ok (.aload_n 1, 1) := by decide +kernel
theorem d_D_writeHeader_14 : decode b_D_writeHeader 14 = .ok (.aload_n 0, 1) := by decide +kernel
theorem d_D_writeHeader_15 : decode b_D_writeHeader 15 = .ok (.getfield 15, 3) := by decide +kernel
theorem d_D_writeHeader_18 : decode b_D_writeHeader 18 = .ok (.iconst 0, 1) := by decide +kernel
theorem d_D_writeHeader_19 : decode b_D_writeHeader 19 = .ok (.iload 4, 2) := by decide +kernel
theorem d_D_writeHeader_21 : decode b_D_writeHeader 21 = .ok (.invokevirtual 81, 3) := by decide +kernel
theorem d_D_writeHeader_24 : decode b_D_writeHeader 24 = .ok (.return_, 1) := by decide +kernel
theorem d_D_writeHeader_25 : decode b_D_writeHeader 25 = .ok (.aload_n 1, 1) := by decide +kernel
theorem d_D_writeHeader_26 : decode b_D_writeHeader 26 = .ok (.sipush 192, 3) := by decide +kernel
theorem d_D_writeHeader_29 : decode b_D_writeHeader 29 = .ok (.bipush 16, 2) := by decide +kernel
theorem d_D_writeHeader_31 : decode b_D_writeHeader 31 = .ok (.iload_n 2, 1) := by decide +kernel
theorem d_D_writeHeader_32 : decode b_D_writeHeader 32 = .ok (.imul, 1) := by decide +kernel
theorem d_D_writeHeader_33 : decode b_D_writeHeader 33 = .ok (.iadd, 1) := by decide +kernel
theorem d_D_writeHeader_34 : decode b_D_writeHeader 34 = .ok (.iload_n 3, 1) := by decide +kernel
theorem d_D_writeHeader_35 : decode b_D_writeHeader 35 = .ok (.iadd, 1) := by decide +kernel
theorem d_D_writeHeader_36 : decode b_D_writeHeader 36 = .ok (.invokevirtual 57, 3) := by decide +kernel
theorem d_D_writeHeader_39 : decode b_D_writeHeader 39 = .ok (.aload_n 1, 1) := by decide +kernel
theorem d_D_writeHeader_40 : decode b_D_writeHeader 40 = .ok (.lconst 1, 1) := by decide +kernel
theorem d_D_writeHeader_41 : decode b_D_writeHeader 41 = .ok (.iconst 4, 1) := by decide +kernel
theorem d_D_writeHeader_42 : decode b_D_writeHeader 42 = .ok (.invokevirtual 77, 3) := by decide +kernel
theorem d_D_writeHeader_45 : decode b_D_writeHeader 45 = .ok (.aload_n 1, 1) := by decide +kernel
theorem d_D_writeHeader_46 : decode b_D_writeHeader 46 = .ok (.iload 4, 2) := by decide +kernel
theorem d_D_writeHeader_48 : decode b_D_writeHeader 48 = .ok (.invokevirtual 57, 3) := by decide +kernel
theorem d_D_writeHeader_51 : decode b_D_writeHeader 51 = .ok (.aload_n 1, 1) := by decide +kernel
theorem d_D_writeHeader_52 : decode b_D_writeHeader 52 = .ok (.aload_n 0, 1) := by decide +kernel
theorem d_D_writeHeader_53 : decode b_D_writeHeader 53 = .ok (.getfield 15, 3) := by decide +kernel
theorem d_D_writeHeader_56 : decode b_D_writeHeader 56 = .ok (.iconst 0, 1) := by decide +kernel
theorem d_D_writeHeader_57 : decode b_D_writeHeader 57 = .ok (.iload 4, 2) := by decide +kernel
theorem d_D_writeHeader_59 : decode b_D_writeHeader 59 = .ok (.invokevirtual 81, 3) := by decide +kernel
theorem d_D_writeHeader_62 : decode b_D_writeHeader 62 = .ok (.aload_n 1, 1) := by decide +kernel
theorem d_D_writeHeader_63 : decode b_D_writeHeader 63 = .ok (.iload 5, 2) := by decide +kernel
theorem d_D_writeHeader_65 : decode b_D_writeHeader 65 = .ok (.invokevirtual 57, 3) := by decide +kernel
theorem d_D_writeHeader_68 : decode b_D_writeHeader 68 = .ok (.aload_n 1, 1) := by decide +kernel
theorem d_D_writeHeader_69 : decode b_D_writeHeader 69 = .ok (.aload_n 0, 1) := by decide +kernel
theorem d_D_writeHeader_70 : decode b_D_writeHeader 70 = .ok (.getfield 15, 3) := by decide +kernel
theorem d_D_writeHeader_73 : decode b_D_writeHeader 73 = .ok (.iload 4, 2) := by decide +kernel
theorem d_D_writeHeader_75 : decode b_D_writeHeader 75 = .ok (.iload 4, 2) := by decide +kernel
theorem d_D_writeHeader_77 : decode b_D_writeHeader 77 = .ok (.iload 5, 2) := by decide +kernel
theorem d_D_writeHeader_79 : decode b_D_writeHeader 79 = .ok (.iadd, 1) := by decide +kernel
theorem d_D_writeHeader_80 : decode b_D_writeHeader 80 = .ok (.invokevirtual 81, 3) := by decide +kernel
theorem d_D_writeHeader_83 : decode b_D_writeHeader 83 = .ok (.iload_n 2, 1) := by decide +kernel
theorem d_D_writeHeader_84 : decode b_D_writeHeader 84 = .ok (.ifCond .ne 36, 3) := by decide +kernel
theorem d_D_writeHeader_87 : decode b_D_writeHeader 87 = .ok (.aload_n 1, 1) := by decide +kernel
theorem d_D_writeHeader_88 : decode b_D_writeHeader 88 = .ok (.aload_n 0, 1) := by decide +kernel
theorem d_D_writeHeader_89 : decode b_D_writeHeader 89 = .ok (.getfield 31, 3) := by decide +kernel
theorem d_D_writeHeader_92 : decode b_D_writeHeader 92 = .ok (.iload 4, 2) := by decide +kernel
theorem d_D_writeHeader_94 : decode b_D_writeHeader 94 = .ok (.isub, 1) := by decide +kernel
theorem d_D_writeHeader_95 : decode b_D_writeHeader 95 = .ok (.iload 5, 2) := by decide +kernel
theorem d_D_writeHeader_97 : decode b_D_writeHeader 97 = .ok (.isub, 1) := by decide +kernel
theorem d_D_writeHeader_98 : decode b_D_writeHeader 98 = .ok (.i2l, 1) := by decide +kernel
theorem d_D_writeHeader_99 : decode b_D_writeHeader 99 = .ok (.iconst 0, 1) := by decide +kernel
theorem d_D_writeHeader_100 : decode b_D_writeHeader 100 = .ok (.invokevirtual 85, 3) := by decide +kernel
theorem d_D_writeHeader_103 : decode b_D_writeHeader 103 = .ok (.aload_n 1, 1) := by decide +kernel
theorem d_D_writeHeader_104 : decode b_D_writeHeader 104 = .ok (.aload_n 0, 1) := by decide +kernel
theorem d_D_writeHeader_105 : decode b_D_writeHeader 105 = .ok (.getfield 15, 3) := by decide +kernel
theorem d_D_writeHeader_108 : decode b_D_writeHeader 108 = .ok (.iload 4, 2) := by decide +kernel
theorem d_D_writeHeader_110 : decode b_D_writeHeader 110 = .ok (.iload 5, 2) := by decide +kernel
theorem d_D_writeHeader_112 : decode b_D_writeHeader 112 = .ok (.iadd, 1) := by decide +kernel
theorem d_D_writeHeader_113 : decode b_D_writeHeader 113 = .ok (.aload_n 0, 1) := by decide +kernel
theorem d_D_writeHeader_114 : decode b_D_writeHeader 114 = .ok (.getfield 31, 3) := by decide +kernel
theorem d_D_writeHeader_117 : decode b_D_writeHeader 117 = .ok (.invokevirtual 81, 3) := by decide +kernel
theorem d_D_writeHeader_120 : decode b_D_writeHeader 120 = .ok (.aload_n 1, 1) := by decide +kernel
theorem d_D_writeHeader_121 : decode b_D_writeHeader 121 = .ok (.iload 6, 2) := by decide +kernel
theorem d_D_writeHeader_123 : decode b_D_writeHeader 123 = .ok (.i2l, 1) := by decide +kernel
theorem d_D_writeHeader_124 : decode b_D_writeHeader 124 = .ok (.iconst 2, 1) := by decide +kernel
theorem d_D_writeHeader_125 : decode b_D_writeHeader 125 = .ok (.invokevirtual 85, 3) := by decide +kernel
theorem d_D_writeHeader_128 : decode b_D_writeHeader 128 = .ok (.return_, 1) := by decide +kernel
theorem zy_D_writeShape : zy y_D_writeShape b_D_writeShape 3 none 2 := ⟨zmem 768 (by decide +kernel) (by decide +kernel), zmem 68 (by decide +kernel) (by decide +kernel), by decide +kernel⟩
theorem zv_D_writeShape : Cond.instanceMethod y_D_writeShape ∈ ztb ∧ Cond.selects y_D_writeShape.cls y_D_writeShape y_D_writeShape ∈ ztb := ⟨zmem 767 (by decide +kernel) (by decide +kernel), zmem 18 (by decide +kernel) (by decide +kernel)⟩
theorem d_D_writeShape_0 : decode b_D_writeShape 0 = .ok (.iload_n 2, 1) := by decide +kernel
theorem d_D_writeShape_1 : decode b_D_writeShape 1 = .ok (.iconst 1, 1) := by decide +kernel
theorem d_D_writeShape_2 : decode b_D_writeShape 2 = .ok (.iand, 1) := by decide +kernel
theorem d_D_writeShape_3 : decode b_D_writeShape 3 = .ok (.ifCond .eq 14, 3) := by decide +kernel
theorem d_D_writeShape_6 : decode b_D_writeShape 6 = .ok (.aload_n 1, 1) := by decide +kernel
theorem d_D_writeShape_7 : decode b_D_writeShape 7 = .ok (.aload_n 0, 1) := by decide +kernel
theorem d_D_writeShape_8 : decode b_D_writeShape 8 = .ok (.getfield 9, 3) := by decide +kernel
theorem d_D_writeShape_11 : decode b_D_writeShape 11 = .ok (.iconst 0, 1) := by decide +kernel
theorem d_D_writeShape_12 : decode b_D_writeShape 12 = .ok (.laload, 1) := by decide +kernel
theorem d_D_writeShape_13 : decode b_D_writeShape 13 = .ok (.iconst 0, 1) := by decide +kernel
theorem d_D_writeShape_14 : decode b_D_writeShape 14 = .ok (.invokevirtual 85, 3) := by decide +kernel
theorem d_D_writeShape_17 : decode b_D_writeShape 17 = .ok (.iload_n 2, 1) := by decide +kernel
theorem d_D_writeShape_18 : decode b_D_writeShape 18 = .ok (.iconst 2, 1) := by decide +kernel
theorem d_D_writeShape_19 : decode b_D_writeShape 19 = .ok (.iand, 1) := by decide +kernel
theorem d_D_writeShape_20 : decode b_D_writeShape 20 = .ok (.ifCond .eq 14, 3) := by decide +kernel
theorem d_D_writeShape_23 : decode b_D_writeShape 23 = .ok (.aload_n 1, 1) := by decide +kernel
theorem d_D_writeShape_24 : decode b_D_writeShape 24 = .ok (.aload_n 0, 1) := by decide +kernel
theorem d_D_writeShape_25 : decode b_D_writeShape 25 = .ok (.getfield 9, 3) := by decide +kernel
theorem d_D_writeShape_28 : decode b_D_writeShape 28 = .ok (.iconst 1, 1) := by decide +kernel
theorem d_D_writeShape_29 : decode b_D_writeShape 29 = .ok (.laload, 1) := by decide +kernel
theorem d_D_writeShape_30 : decode b_D_writeShape 30 = .ok (.iconst 0, 1) := by decide +kernel
theorem d_D_writeShape_31 : decode b_D_writeShape 31 = .ok (.invokevirtual 85, 3) := by decide +kernel
theorem d_D_writeShape_34 : decode b_D_writeShape 34 = .ok (.iload_n 2, 1) := by decide +kernel
theorem d_D_writeShape_35 : decode b_D_writeShape 35 = .ok (.iconst 4, 1) := by decide +kernel
theorem d_D_writeShape_36 : decode b_D_writeShape 36 = .ok (.iand, 1) := by decide +kernel
theorem d_D_writeShape_37 : decode b_D_writeShape 37 = .ok (.ifCond .eq 14, 3) := by decide +kernel
theorem d_D_writeShape_40 : decode b_D_writeShape 40 = .ok (.aload_n 1, 1) := by decide +kernel
theorem d_D_writeShape_41 : decode b_D_writeShape 41 = .ok (.aload_n 0, 1) := by decide +kernel
theorem d_D_writeShape_42 : decode b_D_writeShape 42 = .ok (.getfield 9, 3) := by decide +kernel
theorem d_D_writeShape_45 : decode b_D_writeShape 45 = .ok (.iconst 2, 1) := by decide +kernel
theorem d_D_writeShape_46 : decode b_D_writeShape 46 = .ok (.laload, 1) := by decide +kernel
theorem d_D_writeShape_47 : decode b_D_writeShape 47 = .ok (.iconst 0, 1) := by decide +kernel
theorem d_D_writeShape_48 : decode b_D_writeShape 48 = .ok (.invokevirtual 85, 3) := by decide +kernel
theorem d_D_writeShape_51 : decode b_D_writeShape 51 = .ok (.iload_n 2, 1) := by decide +kernel
theorem d_D_writeShape_52 : decode b_D_writeShape 52 = .ok (.bipush 8, 2) := by decide +kernel
theorem d_D_writeShape_54 : decode b_D_writeShape 54 = .ok (.iand, 1) := by decide +kernel
theorem d_D_writeShape_55 : decode b_D_writeShape 55 = .ok (.ifCond .eq 13, 3) := by decide +kernel
theorem d_D_writeShape_58 : decode b_D_writeShape 58 = .ok (.aload_n 1, 1) := by decide +kernel
theorem d_D_writeShape_59 : decode b_D_writeShape 59 = .ok (.aload_n 0, 1) := by decide +kernel
theorem d_D_writeShape_60 : decode b_D_writeShape 60 = .ok (.getfield 31, 3) := by decide +kernel
theorem d_D_writeShape_63 : decode b_D_writeShape 63 = .ok (.i2l, 1) := by decide +kernel
theorem d_D_writeShape_64 : decode b_D_writeShape 64 = .ok (.iconst 0, 1) := by decide +kernel
theorem d_D_writeShape_65 : decode b_D_writeShape 65 = .ok (.invokevirtual 85, 3) := by decide +kernel
theorem d_D_writeShape_68 : decode b_D_writeShape 68 = .ok (.return_, 1) := by decide +kernel
theorem zy_D_writeAck : zy y_D_writeAck b_D_writeAck 4 none 2 := ⟨zmem 763 (by decide +kernel) (by decide +kernel), zmem 68 (by decide +kernel) (by decide +kernel), by decide +kernel⟩
theorem zv_D_writeAck : Cond.instanceMethod y_D_writeAck ∈ ztb ∧ Cond.selects y_D_writeAck.cls y_D_writeAck y_D_writeAck ∈ ztb := ⟨zmem 762 (by decide +kernel) (by decide +kernel), zmem 17 (by decide +kernel) (by decide +kernel)⟩
theorem d_D_writeAck_0 : decode b_D_writeAck 0 = .ok (.aload_n 1, 1) := by decide +kernel
theorem d_D_writeAck_1 : decode b_D_writeAck 1 = .ok (.aload_n 0, 1) := by decide +kernel
theorem d_D_writeAck_2 : decode b_D_writeAck 2 = .ok (.getfield 22, 3) := by decide +kernel
theorem d_D_writeAck_5 : decode b_D_writeAck 5 = .ok (.iconst 0, 1) := by decide +kernel
theorem d_D_writeAck_6 : decode b_D_writeAck 6 = .ok (.laload, 1) := by decide +kernel
theorem d_D_writeAck_7 : decode b_D_writeAck 7 = .ok (.iconst 0, 1) := by decide +kernel
theorem d_D_writeAck_8 : decode b_D_writeAck 8 = .ok (.invokevirtual 85, 3) := by decide +kernel
theorem d_D_writeAck_11 : decode b_D_writeAck 11 = .ok (.aload_n 1, 1) := by decide +kernel
theorem d_D_writeAck_12 : decode b_D_writeAck 12 = .ok (.aload_n 0, 1) := by decide +kernel
theorem d_D_writeAck_13 : decode b_D_writeAck 13 = .ok (.getfield 9, 3) := by decide +kernel
theorem d_D_writeAck_16 : decode b_D_writeAck 16 = .ok (.iconst 1, 1) := by decide +kernel
theorem d_D_writeAck_17 : decode b_D_writeAck 17 = .ok (.laload, 1) := by decide +kernel
theorem d_D_writeAck_18 : decode b_D_writeAck 18 = .ok (.iconst 0, 1) := by decide +kernel
theorem d_D_writeAck_19 : decode b_D_writeAck 19 = .ok (.invokevirtual 85, 3) := by decide +kernel
theorem d_D_writeAck_22 : decode b_D_writeAck 22 = .ok (.aload_n 1, 1) := by decide +kernel
theorem d_D_writeAck_23 : decode b_D_writeAck 23 = .ok (.aload_n 0, 1) := by decide +kernel
theorem d_D_writeAck_24 : decode b_D_writeAck 24 = .ok (.getfield 35, 3) := by decide +kernel
theorem d_D_writeAck_27 : decode b_D_writeAck 27 = .ok (.iconst 1, 1) := by decide +kernel
theorem d_D_writeAck_28 : decode b_D_writeAck 28 = .ok (.isub, 1) := by decide +kernel
theorem d_D_writeAck_29 : decode b_D_writeAck 29 = .ok (.i2l, 1) := by decide +kernel
theorem d_D_writeAck_30 : decode b_D_writeAck 30 = .ok (.iconst 0, 1) := by decide +kernel
theorem d_D_writeAck_31 : decode b_D_writeAck 31 = .ok (.invokevirtual 85, 3) := by decide +kernel
theorem d_D_writeAck_34 : decode b_D_writeAck 34 = .ok (.aload_n 1, 1) := by decide +kernel
theorem d_D_writeAck_35 : decode b_D_writeAck 35 = .ok (.aload_n 0, 1) := by decide +kernel
theorem d_D_writeAck_36 : decode b_D_writeAck 36 = .ok (.getfield 22, 3) := by decide +kernel
theorem d_D_writeAck_39 : decode b_D_writeAck 39 = .ok (.iconst 0, 1) := by decide +kernel
theorem d_D_writeAck_40 : decode b_D_writeAck 40 = .ok (.laload, 1) := by decide +kernel
theorem d_D_writeAck_41 : decode b_D_writeAck 41 = .ok (.aload_n 0, 1) := by decide +kernel
theorem d_D_writeAck_42 : decode b_D_writeAck 42 = .ok (.getfield 19, 3) := by decide +kernel
theorem d_D_writeAck_45 : decode b_D_writeAck 45 = .ok (.iconst 0, 1) := by decide +kernel
theorem d_D_writeAck_46 : decode b_D_writeAck 46 = .ok (.laload, 1) := by decide +kernel
theorem d_D_writeAck_47 : decode b_D_writeAck 47 = .ok (.lsub, 1) := by decide +kernel
theorem d_D_writeAck_48 : decode b_D_writeAck 48 = .ok (.iconst 0, 1) := by decide +kernel
theorem d_D_writeAck_49 : decode b_D_writeAck 49 = .ok (.invokevirtual 85, 3) := by decide +kernel
theorem d_D_writeAck_52 : decode b_D_writeAck 52 = .ok (.iconst 1, 1) := by decide +kernel
theorem d_D_writeAck_53 : decode b_D_writeAck 53 = .ok (.istore_n 3, 1) := by decide +kernel
theorem d_D_writeAck_54 : decode b_D_writeAck 54 = .ok (.iload_n 3, 1) := by decide +kernel
theorem d_D_writeAck_55 : decode b_D_writeAck 55 = .ok (.aload_n 0, 1) := by decide +kernel
theorem d_D_writeAck_56 : decode b_D_writeAck 56 = .ok (.getfield 35, 3) := by decide +kernel
theorem d_D_writeAck_59 : decode b_D_writeAck 59 = .ok (.if_icmp .ge 69, 3) := by decide +kernel
theorem d_D_writeAck_62 : decode b_D_writeAck 62 = .ok (.iload_n 3, 1) := by decide +kernel
theorem d_D_writeAck_63 : decode b_D_writeAck 63 = .ok (.aload_n 0, 1) := by decide +kernel
theorem d_D_writeAck_64 : decode b_D_writeAck 64 = .ok (.getfield 19, 3) := by decide +kernel
theorem d_D_writeAck_67 : decode b_D_writeAck 67 = .ok (.arraylength, 1) := by decide +kernel
theorem d_D_writeAck_68 : decode b_D_writeAck 68 = .ok (.if_icmp .ge 60, 3) := by decide +kernel
theorem d_D_writeAck_71 : decode b_D_writeAck 71 = .ok (.iload_n 3, 1) := by decide +kernel
theorem d_D_writeAck_72 : decode b_D_writeAck 72 = .ok (.aload_n 0, 1) := by decide +kernel
theorem d_D_writeAck_73 : decode b_D_writeAck 73 = .ok (.getfield 22, 3) := by decide +kernel
theorem d_D_writeAck_76 : decode b_D_writeAck 76 = .ok (.arraylength, 1) := by decide +kernel
theorem d_D_writeAck_77 : decode b_D_writeAck 77 = .ok (.if_icmp .ge 51, 3) := by decide +kernel
theorem d_D_writeAck_80 : decode b_D_writeAck 80 = .ok (.aload_n 1, 1) := by decide +kernel
theorem d_D_writeAck_81 : decode b_D_writeAck 81 = .ok (.aload_n 0, 1) := by decide +kernel
theorem d_D_writeAck_82 : decode b_D_writeAck 82 = .ok (.getfield 19, 3) := by decide +kernel
theorem d_D_writeAck_85 : decode b_D_writeAck 85 = .ok (.iload_n 3, 1) := by decide +kernel
theorem d_D_writeAck_86 : decode b_D_writeAck 86 = .ok (.iconst 1, 1) := by decide +kernel
theorem d_D_writeAck_87 : decode b_D_writeAck 87 = .ok (.isub, 1) := by decide +kernel
theorem d_D_writeAck_88 : decode b_D_writeAck 88 = .ok (.laload, 1) := by decide +kernel
theorem d_D_writeAck_89 : decode b_D_writeAck 89 = .ok (.aload_n 0, 1) := by decide +kernel
theorem d_D_writeAck_90 : decode b_D_writeAck 90 = .ok (.getfield 22, 3) := by decide +kernel
theorem d_D_writeAck_93 : decode b_D_writeAck 93 = .ok (.iload_n 3, 1) := by decide +kernel
theorem d_D_writeAck_94 : decode b_D_writeAck 94 = .ok (.laload, 1) := by decide +kernel
theorem d_D_writeAck_95 : decode b_D_writeAck 95 = .ok (.lsub, 1) := by decide +kernel
theorem d_D_writeAck_96 : decode b_D_writeAck 96 = .ok (.ldc2_w 38, 3) := by decide +kernel
theorem d_D_writeAck_99 : decode b_D_writeAck 99 = .ok (.lsub, 1) := by decide +kernel
theorem d_D_writeAck_100 : decode b_D_writeAck 100 = .ok (.iconst 0, 1) := by decide +kernel
theorem d_D_writeAck_101 : decode b_D_writeAck 101 = .ok (.invokevirtual 85, 3) := by decide +kernel
theorem d_D_writeAck_104 : decode b_D_writeAck 104 = .ok (.aload_n 1, 1) := by decide +kernel
theorem d_D_writeAck_105 : decode b_D_writeAck 105 = .ok (.aload_n 0, 1) := by decide +kernel
theorem d_D_writeAck_106 : decode b_D_writeAck 106 = .ok (.getfield 22, 3) := by decide +kernel
theorem d_D_writeAck_109 : decode b_D_writeAck 109 = .ok (.iload_n 3, 1) := by decide +kernel
theorem d_D_writeAck_110 : decode b_D_writeAck 110 = .ok (.laload, 1) := by decide +kernel
theorem d_D_writeAck_111 : decode b_D_writeAck 111 = .ok (.aload_n 0, 1) := by decide +kernel
theorem d_D_writeAck_112 : decode b_D_writeAck 112 = .ok (.getfield 19, 3) := by decide +kernel
theorem d_D_writeAck_115 : decode b_D_writeAck 115 = .ok (.iload_n 3, 1) := by decide +kernel
theorem d_D_writeAck_116 : decode b_D_writeAck 116 = .ok (.laload, 1) := by decide +kernel
theorem d_D_writeAck_117 : decode b_D_writeAck 117 = .ok (.lsub, 1) := by decide +kernel
theorem d_D_writeAck_118 : decode b_D_writeAck 118 = .ok (.iconst 0, 1) := by decide +kernel
theorem d_D_writeAck_119 : decode b_D_writeAck 119 = .ok (.invokevirtual 85, 3) := by decide +kernel
theorem d_D_writeAck_122 : decode b_D_writeAck 122 = .ok (.iinc 3 1, 3) := by decide +kernel
theorem d_D_writeAck_125 : decode b_D_writeAck 125 = .ok (.goto (-71), 3) := by decide +kernel
theorem d_D_writeAck_128 : decode b_D_writeAck 128 = .ok (.bipush 9, 2) := by decide +kernel
theorem d_D_writeAck_130 : decode b_D_writeAck 130 = .ok (.istore_n 3, 1) := by decide +kernel
theorem d_D_writeAck_131 : decode b_D_writeAck 131 = .ok (.iload_n 2, 1) := by decide +kernel
theorem d_D_writeAck_132 : decode b_D_writeAck 132 = .ok (.iconst 3, 1) := by decide +kernel
theorem d_D_writeAck_133 : decode b_D_writeAck 133 = .ok (.if_icmp .ne 26, 3) := by decide +kernel
theorem d_D_writeAck_136 : decode b_D_writeAck 136 = .ok (.iload_n 3, 1) := by decide +kernel
theorem d_D_writeAck_137 : decode b_D_writeAck 137 = .ok (.bipush 12, 2) := by decide +kernel
theorem d_D_writeAck_139 : decode b_D_writeAck 139 = .ok (.if_icmp .ge 20, 3) := by decide +kernel
theorem d_D_writeAck_142 : decode b_D_writeAck 142 = .ok (.aload_n 1, 1) := by decide +kernel
theorem d_D_writeAck_143 : decode b_D_writeAck 143 = .ok (.aload_n 0, 1) := by decide +kernel
theorem d_D_writeAck_144 : decode b_D_writeAck 144 = .ok (.getfield 9, 3) := by decide +kernel
theorem d_D_writeAck_147 : decode b_D_writeAck 147 = .ok (.iload_n 3, 1) := by decide +kernel
theorem d_D_writeAck_148 : decode b_D_writeAck 148 = .ok (.laload, 1) := by decide +kernel
theorem d_D_writeAck_149 : decode b_D_writeAck 149 = .ok (.iconst 0, 1) := by decide +kernel
theorem d_D_writeAck_150 : decode b_D_writeAck 150 = .ok (.invokevirtual 85, 3) := by decide +kernel
theorem d_D_writeAck_153 : decode b_D_writeAck 153 = .ok (.iinc 3 1, 3) := by decide +kernel
theorem d_D_writeAck_156 : decode b_D_writeAck 156 = .ok (.goto (-25), 3) := by decide +kernel
theorem d_D_writeAck_159 : decode b_D_writeAck 159 = .ok (.return_, 1) := by decide +kernel
theorem zy_H_sizeOfName : zy y_H_sizeOfName b_H_sizeOfName 4 (some .int) 2 := ⟨zmem 800 (by decide +kernel) (by decide +kernel), zmem 67 (by decide +kernel) (by decide +kernel), by decide +kernel⟩
theorem zv_H_sizeOfName : Cond.instanceMethod y_H_sizeOfName ∈ ztb ∧ Cond.selects y_H_sizeOfName.cls y_H_sizeOfName y_H_sizeOfName ∈ ztb := ⟨zmem 799 (by decide +kernel) (by decide +kernel), zmem 20 (by decide +kernel) (by decide +kernel)⟩
theorem d_H_sizeOfName_0 : decode b_H_sizeOfName 0 = .ok (.aload_n 1, 1) := by decide +kernel
theorem d_H_sizeOfName_1 : decode b_H_sizeOfName 1 = .ok (.iconst 1, 1) := by decide +kernel
theorem d_H_sizeOfName_2 : decode b_H_sizeOfName 2 = .ok (.invokevirtual 27, 3) := by decide +kernel
theorem d_H_sizeOfName_5 : decode b_H_sizeOfName 5 = .ok (.l2i, 1) := by decide +kernel
theorem d_H_sizeOfName_6 : decode b_H_sizeOfName 6 = .ok (.istore_n 3, 1) := by decide +kernel
theorem d_H_sizeOfName_7 : decode b_H_sizeOfName 7 = .ok (.aload_n 1, 1) := by decide +kernel
theorem d_H_sizeOfName_8 : decode b_H_sizeOfName 8 = .ok (.getfield 31, 3) := by decide +kernel
theorem d_H_sizeOfName_11 : decode b_H_sizeOfName 11 = .ok (.ifCond .eq 5, 3) := by decide +kernel
theorem d_H_sizeOfName_14 : decode b_H_sizeOfName 14 = .ok (.iconst 1, 1) := by decide +kernel
theorem d_H_sizeOfName_15 : decode b_H_sizeOfName 15 = .ok (.ireturn, 1) := by decide +kernel
theorem d_H_sizeOfName_16 : decode b_H_sizeOfName 16 = .ok (.iload_n 2, 1) := by decide +kernel
theorem d_H_sizeOfName_17 : decode b_H_sizeOfName 17 = .ok (.ifCond .lt 16, 3) := by decide +kernel
theorem d_H_sizeOfName_20 : decode b_H_sizeOfName 20 = .ok (.iload_n 2, 1) := by decide +kernel
theorem d_H_sizeOfName_21 : decode b_H_sizeOfName 21 = .ok (.bipush 12, 2) := by decide +kernel
theorem d_H_sizeOfName_23 : decode b_H_sizeOfName 23 = .ok (.if_icmp .ge 10, 3) := by decide +kernel
theorem d_H_sizeOfName_26 : decode b_H_sizeOfName 26 = .ok (.aload_n 0, 1) := by decide +kernel
theorem d_H_sizeOfName_27 : decode b_H_sizeOfName 27 = .ok (.getfield 9, 3) := by decide +kernel
theorem d_H_sizeOfName_30 : decode b_H_sizeOfName 30 = .ok (.iload_n 2, 1) := by decide +kernel
theorem d_H_sizeOfName_31 : decode b_H_sizeOfName 31 = .ok (.iload_n 3, 1) := by decide +kernel
theorem d_H_sizeOfName_32 : decode b_H_sizeOfName 32 = .ok (.iastore, 1) := by decide +kernel
theorem d_H_sizeOfName_33 : decode b_H_sizeOfName 33 = .ok (.iload_n 3, 1) := by decide +kernel
theorem d_H_sizeOfName_34 : decode b_H_sizeOfName 34 = .ok (.bipush 20, 2) := by decide +kernel
theorem d_H_sizeOfName_36 : decode b_H_sizeOfName 36 = .ok (.if_icmp .le 7, 3) := by decide +kernel
theorem d_H_sizeOfName_39 : decode b_H_sizeOfName 39 = .ok (.iconst 5, 1) := by decide +kernel
theorem d_H_sizeOfName_40 : decode b_H_sizeOfName 40 = .ok (.goto 4, 3) := by decide +kernel
theorem d_H_sizeOfName_43 : decode b_H_sizeOfName 43 = .ok (.iconst 0, 1) := by decide +kernel
theorem d_H_sizeOfName_44 : decode b_H_sizeOfName 44 = .ok (.ireturn, 1) := by decide +kernel
theorem zy_R_takeNumber : zy y_R_takeNumber b_R_takeNumber 4 (some .long) 0 := ⟨zmem 526 (by decide +kernel) (by decide +kernel), zmem 64 (by decide +kernel) (by decide +kernel), by decide +kernel⟩
theorem zv_R_takeNumber : Cond.instanceMethod y_R_takeNumber ∈ ztb ∧ Cond.selects y_R_takeNumber.cls y_R_takeNumber y_R_takeNumber ∈ ztb := ⟨zmem 524 (by decide +kernel) (by decide +kernel), zmem 525 (by decide +kernel) (by decide +kernel)⟩
theorem d_R_takeNumber_0 : decode b_R_takeNumber 0 = .ok (.aload_n 0, 1) := by decide +kernel
theorem d_R_takeNumber_1 : decode b_R_takeNumber 1 = .ok (.getfield 7, 3) := by decide +kernel
theorem d_R_takeNumber_4 : decode b_R_takeNumber 4 = .ok (.aload_n 0, 1) := by decide +kernel
theorem d_R_takeNumber_5 : decode b_R_takeNumber 5 = .ok (.getfield 13, 3) := by decide +kernel
theorem d_R_takeNumber_8 : decode b_R_takeNumber 8 = .ok (.invokevirtual 38, 3) := by decide +kernel
theorem d_R_takeNumber_11 : decode b_R_takeNumber 11 = .ok (.istore_n 1, 1) := by decide +kernel
theorem d_R_takeNumber_12 : decode b_R_takeNumber 12 = .ok (.aload_n 0, 1) := by decide +kernel
theorem d_R_takeNumber_13 : decode b_R_takeNumber 13 = .ok (.getfield 20, 3) := by decide +kernel
theorem d_R_takeNumber_16 : decode b_R_takeNumber 16 = .ok (.ifCond .ne 16, 3) := by decide +kernel
theorem d_R_takeNumber_19 : decode b_R_takeNumber 19 = .ok (.iload_n 1, 1) := by decide +kernel
theorem d_R_takeNumber_20 : decode b_R_takeNumber 20 = .ok (.aload_n 0, 1) := by decide +kernel
theorem d_R_takeNumber_21 : decode b_R_takeNumber 21 = .ok (.getfield 17, 3) := by decide +kernel
theorem d_R_takeNumber_24 : decode b_R_takeNumber 24 = .ok (.aload_n 0, 1) := by decide +kernel
theorem d_R_takeNumber_25 : decode b_R_takeNumber 25 = .ok (.getfield 13, 3) := by decide +kernel
theorem d_R_takeNumber_28 : decode b_R_takeNumber 28 = .ok (.isub, 1) := by decide +kernel
theorem d_R_takeNumber_29 : decode b_R_takeNumber 29 = .ok (.if_icmp .le 10, 3) := by decide +kernel
theorem d_R_takeNumber_32 : decode b_R_takeNumber 32 = .ok (.aload_n 0, 1) := by decide +kernel
theorem d_R_takeNumber_33 : decode b_R_takeNumber 33 = .ok (.iconst 1, 1) := by decide +kernel
theorem d_R_takeNumber_34 : decode b_R_takeNumber 34 = .ok (.putfield 20, 3) := by decide +kernel
theorem d_R_takeNumber_37 : decode b_R_takeNumber 37 = .ok (.lconst 0, 1) := by decide +kernel
theorem d_R_takeNumber_38 : decode b_R_takeNumber 38 = .ok (.lreturn, 1) := by decide +kernel
theorem d_R_takeNumber_39 : decode b_R_takeNumber 39 = .ok (.aload_n 0, 1) := by decide +kernel
theorem d_R_takeNumber_40 : decode b_R_takeNumber 40 = .ok (.getfield 7, 3) := by decide +kernel
theorem d_R_takeNumber_43 : decode b_R_takeNumber 43 = .ok (.aload_n 0, 1) := by decide +kernel
theorem d_R_takeNumber_44 : decode b_R_takeNumber 44 = .ok (.getfield 13, 3) := by decide +kernel
theorem d_R_takeNumber_47 : decode b_R_takeNumber 47 = .ok (.iload_n 1, 1) := by decide +kernel
theorem d_R_takeNumber_48 : decode b_R_takeNumber 48 = .ok (.invokevirtual 42, 3) := by decide +kernel
theorem d_R_takeNumber_51 : decode b_R_takeNumber 51 = .ok (.lstore_n 2, 1) := by decide +kernel
theorem d_R_takeNumber_52 : decode b_R_takeNumber 52 = .ok (.aload_n 0, 1) := by decide +kernel
theorem d_R_takeNumber_53 : decode b_R_takeNumber 53 = .ok (.dup, 1) := by decide +kernel
theorem d_R_takeNumber_54 : decode b_R_takeNumber 54 = .ok (.getfield 13, 3) := by decide +kernel
theorem d_R_takeNumber_57 : decode b_R_takeNumber 57 = .ok (.iload_n 1, 1) := by decide +kernel
theorem d_R_takeNumber_58 : decode b_R_takeNumber 58 = .ok (.iadd, 1) := by decide +kernel
theorem d_R_takeNumber_59 : decode b_R_takeNumber 59 = .ok (.putfield 13, 3) := by decide +kernel
theorem d_R_takeNumber_62 : decode b_R_takeNumber 62 = .ok (.lload_n 2, 1) := by decide +kernel
theorem d_R_takeNumber_63 : decode b_R_takeNumber 63 = .ok (.lreturn, 1) := by decide +kernel
theorem zy_R_numberOfAll : zy y_R_numberOfAll b_R_numberOfAll 4 (some .long) 2 := ⟨zmem 894 (by decide +kernel) (by decide +kernel), zmem 64 (by decide +kernel) (by decide +kernel), by decide +kernel⟩
theorem zv_R_numberOfAll : Cond.instanceMethod y_R_numberOfAll ∈ ztb ∧ Cond.selects y_R_numberOfAll.cls y_R_numberOfAll y_R_numberOfAll ∈ ztb := ⟨zmem 892 (by decide +kernel) (by decide +kernel), zmem 893 (by decide +kernel) (by decide +kernel)⟩
theorem d_R_numberOfAll_0 : decode b_R_numberOfAll 0 = .ok (.lload_n 2, 1) := by decide +kernel
theorem d_R_numberOfAll_1 : decode b_R_numberOfAll 1 = .ok (.lconst 1, 1) := by decide +kernel
theorem d_R_numberOfAll_2 : decode b_R_numberOfAll 2 = .ok (.lcmp, 1) := by decide +kernel
theorem d_R_numberOfAll_3 : decode b_R_numberOfAll 3 = .ok (.ifCond .lt 17, 3) := by decide +kernel
theorem d_R_numberOfAll_6 : decode b_R_numberOfAll 6 = .ok (.aload_n 0, 1) := by decide +kernel
theorem d_R_numberOfAll_7 : decode b_R_numberOfAll 7 = .ok (.getfield 7, 3) := by decide +kernel
theorem d_R_numberOfAll_10 : decode b_R_numberOfAll 10 = .ok (.iload_n 1, 1) := by decide +kernel
theorem d_R_numberOfAll_11 : decode b_R_numberOfAll 11 = .ok (.invokevirtual 38, 3) := by decide +kernel
theorem d_R_numberOfAll_14 : decode b_R_numberOfAll 14 = .ok (.i2l, 1) := by decide +kernel
theorem d_R_numberOfAll_15 : decode b_R_numberOfAll 15 = .ok (.lload_n 2, 1) := by decide +kernel
theorem d_R_numberOfAll_16 : decode b_R_numberOfAll 16 = .ok (.lcmp, 1) := by decide +kernel
theorem d_R_numberOfAll_17 : decode b_R_numberOfAll 17 = .ok (.ifCond .eq 7, 3) := by decide +kernel
theorem d_R_numberOfAll_20 : decode b_R_numberOfAll 20 = .ok (.ldc2_w 45, 3) := by decide +kernel
theorem d_R_numberOfAll_23 : decode b_R_numberOfAll 23 = .ok (.lreturn, 1) := by decide +kernel
theorem d_R_numberOfAll_24 : decode b_R_numberOfAll 24 = .ok (.aload_n 0, 1) := by decide +kernel
theorem d_R_numberOfAll_25 : decode b_R_numberOfAll 25 = .ok (.getfield 7, 3) := by decide +kernel
theorem d_R_numberOfAll_28 : decode b_R_numberOfAll 28 = .ok (.iload_n 1, 1) := by decide +kernel
theorem d_R_numberOfAll_29 : decode b_R_numberOfAll 29 = .ok (.lload_n 2, 1) := by decide +kernel
theorem d_R_numberOfAll_30 : decode b_R_numberOfAll 30 = .ok (.l2i, 1) := by decide +kernel
theorem d_R_numberOfAll_31 : decode b_R_numberOfAll 31 = .ok (.invokevirtual 42, 3) := by decide +kernel
theorem d_R_numberOfAll_34 : decode b_R_numberOfAll 34 = .ok (.lreturn, 1) := by decide +kernel
theorem zy_G_keepFrame : zy y_G_keepFrame b_G_keepFrame 2 none 1 := ⟨zmem 631 (by decide +kernel) (by decide +kernel), zmem 65 (by decide +kernel) (by decide +kernel), by decide +kernel⟩
theorem zv_G_keepFrame : Cond.instanceMethod y_G_keepFrame ∈ ztb ∧ Cond.selects y_G_keepFrame.cls y_G_keepFrame y_G_keepFrame ∈ ztb := ⟨zmem 629 (by decide +kernel) (by decide +kernel), zmem 630 (by decide +kernel) (by decide +kernel)⟩
theorem d_G_keepFrame_0 : decode b_G_keepFrame 0 = .ok (.aload_n 0, 1) := by decide +kernel
theorem d_G_keepFrame_1 : decode b_G_keepFrame 1 = .ok (.aload_n 0, 1) := by decide +kernel
theorem d_G_keepFrame_2 : decode b_G_keepFrame 2 = .ok (.getfield 19, 3) := by decide +kernel
theorem d_G_keepFrame_5 : decode b_G_keepFrame 5 = .ok (.iload_n 1, 1) := by decide +kernel
theorem d_G_keepFrame_6 : decode b_G_keepFrame 6 = .ok (.invokevirtual 34, 3) := by decide +kernel
theorem d_G_keepFrame_9 : decode b_G_keepFrame 9 = .ok (.aload_n 0, 1) := by decide +kernel
theorem d_G_keepFrame_10 : decode b_G_keepFrame 10 = .ok (.dup, 1) := by decide +kernel
theorem d_G_keepFrame_11 : decode b_G_keepFrame 11 = .ok (.getfield 19, 3) := by decide +kernel
theorem d_G_keepFrame_14 : decode b_G_keepFrame 14 = .ok (.iconst 1, 1) := by decide +kernel
theorem d_G_keepFrame_15 : decode b_G_keepFrame 15 = .ok (.iadd, 1) := by decide +kernel
theorem d_G_keepFrame_16 : decode b_G_keepFrame 16 = .ok (.putfield 19, 3) := by decide +kernel
theorem d_G_keepFrame_19 : decode b_G_keepFrame 19 = .ok (.return_, 1) := by decide +kernel
theorem zy_G_keepPacket : zy y_G_keepPacket b_G_keepPacket 2 none 1 := ⟨zmem 816 (by decide +kernel) (by decide +kernel), zmem 65 (by decide +kernel) (by decide +kernel), by decide +kernel⟩
theorem zv_G_keepPacket : Cond.instanceMethod y_G_keepPacket ∈ ztb ∧ Cond.selects y_G_keepPacket.cls y_G_keepPacket y_G_keepPacket ∈ ztb := ⟨zmem 814 (by decide +kernel) (by decide +kernel), zmem 815 (by decide +kernel) (by decide +kernel)⟩
theorem d_G_keepPacket_0 : decode b_G_keepPacket 0 = .ok (.aload_n 0, 1) := by decide +kernel
theorem d_G_keepPacket_1 : decode b_G_keepPacket 1 = .ok (.aload_n 0, 1) := by decide +kernel
theorem d_G_keepPacket_2 : decode b_G_keepPacket 2 = .ok (.getfield 22, 3) := by decide +kernel
theorem d_G_keepPacket_5 : decode b_G_keepPacket 5 = .ok (.iload_n 1, 1) := by decide +kernel
theorem d_G_keepPacket_6 : decode b_G_keepPacket 6 = .ok (.invokevirtual 34, 3) := by decide +kernel
theorem d_G_keepPacket_9 : decode b_G_keepPacket 9 = .ok (.aload_n 0, 1) := by decide +kernel
theorem d_G_keepPacket_10 : decode b_G_keepPacket 10 = .ok (.dup, 1) := by decide +kernel
theorem d_G_keepPacket_11 : decode b_G_keepPacket 11 = .ok (.getfield 22, 3) := by decide +kernel
theorem d_G_keepPacket_14 : decode b_G_keepPacket 14 = .ok (.iconst 1, 1) := by decide +kernel
theorem d_G_keepPacket_15 : decode b_G_keepPacket 15 = .ok (.iadd, 1) := by decide +kernel
theorem d_G_keepPacket_16 : decode b_G_keepPacket 16 = .ok (.putfield 22, 3) := by decide +kernel
theorem d_G_keepPacket_19 : decode b_G_keepPacket 19 = .ok (.return_, 1) := by decide +kernel
theorem zy_W_read : zy y_W_read b_W_read 4 (some .long) 1 := ⟨zmem 518 (by decide +kernel) (by decide +kernel), zmem 62 (by decide +kernel) (by decide +kernel), by decide +kernel⟩
theorem zv_W_read : Cond.instanceMethod y_W_read ∈ ztb ∧ Cond.selects y_W_read.cls y_W_read y_W_read ∈ ztb := ⟨zmem 516 (by decide +kernel) (by decide +kernel), zmem 517 (by decide +kernel) (by decide +kernel)⟩
theorem d_W_read_0 : decode b_W_read 0 = .ok (.aload_n 0, 1) := by decide +kernel
theorem d_W_read_1 : decode b_W_read 1 = .ok (.iload_n 1, 1) := by decide +kernel
theorem d_W_read_2 : decode b_W_read 2 = .ok (.invokevirtual 106, 3) := by decide +kernel
theorem d_W_read_5 : decode b_W_read 5 = .ok (.aload_n 0, 1) := by decide +kernel
theorem d_W_read_6 : decode b_W_read 6 = .ok (.getfield 21, 3) := by decide +kernel
theorem d_W_read_9 : decode b_W_read 9 = .ok (.iload_n 1, 1) := by decide +kernel
theorem d_W_read_10 : decode b_W_read 10 = .ok (.aload_n 0, 1) := by decide +kernel
theorem d_W_read_11 : decode b_W_read 11 = .ok (.getfield 12, 3) := by decide +kernel
theorem d_W_read_14 : decode b_W_read 14 = .ok (.getfield 95, 3) := by decide +kernel
theorem d_W_read_17 : decode b_W_read 17 = .ok (.invokevirtual 114, 3) := by decide +kernel
theorem d_W_read_20 : decode b_W_read 20 = .ok (.aload_n 0, 1) := by decide +kernel
theorem d_W_read_21 : decode b_W_read 21 = .ok (.getfield 21, 3) := by decide +kernel
theorem d_W_read_24 : decode b_W_read 24 = .ok (.invokevirtual 117, 3) := by decide +kernel
theorem d_W_read_27 : decode b_W_read 27 = .ok (.lstore_n 2, 1) := by decide +kernel
theorem d_W_read_28 : decode b_W_read 28 = .ok (.aload_n 0, 1) := by decide +kernel
theorem d_W_read_29 : decode b_W_read 29 = .ok (.getfield 21, 3) := by decide +kernel
theorem d_W_read_32 : decode b_W_read 32 = .ok (.getfield 121, 3) := by decide +kernel
theorem d_W_read_35 : decode b_W_read 35 = .ok (.ifCond .eq 9, 3) := by decide +kernel
theorem d_W_read_38 : decode b_W_read 38 = .ok (.ldc2_w 125, 3) := by decide +kernel
theorem d_W_read_41 : decode b_W_read 41 = .ok (.goto 4, 3) := by decide +kernel
theorem d_W_read_44 : decode b_W_read 44 = .ok (.lload_n 2, 1) := by decide +kernel
theorem d_W_read_45 : decode b_W_read 45 = .ok (.lreturn, 1) := by decide +kernel
theorem zin_T_37 : Cond.methodLink R_T 37 y_T_writeByte ∈ ztb := zmem 415 (by decide +kernel) (by decide +kernel)
theorem zin_T_47 : Cond.methodLink R_T 47 y_T_writeWord ∈ ztb := zmem 479 (by decide +kernel) (by decide +kernel)
theorem zin_T_45 : Cond.constantLong R_T 45 (3 : Int64) ∈ ztb := zmem 478 (by decide +kernel) (by decide +kernel)
theorem zin_W_67 : Cond.methodLink R_W 67 y_T_startWriting ∈ ztb := zmem 407 (by decide +kernel) (by decide +kernel)
theorem zin_W_70 : Cond.methodLink R_W 70 y_T_writeWord ∈ ztb := zmem 411 (by decide +kernel) (by decide +kernel)
theorem zin_W_74 : Cond.methodLink R_W 74 y_W_keepWritten ∈ ztb := zmem 428 (by decide +kernel) (by decide +kernel)
theorem zin_W_92 : Cond.methodLink R_W 92 y_T_writeNumber ∈ ztb := zmem 473 (by decide +kernel) (by decide +kernel)
theorem zin_W_86 : Cond.methodLink R_W 86 y_W_fewestBytes ∈ ztb := zmem 466 (by decide +kernel) (by decide +kernel)
theorem zin_W_82 : Cond.methodLink R_W 82 y_W_isNumberSize ∈ ztb := zmem 463 (by decide +kernel) (by decide +kernel)
theorem zin_W_200 : Cond.methodLink R_W 200 y_D_empty ∈ ztb := zmem 324 (by decide +kernel) (by decide +kernel)
theorem zin_D_57 : Cond.methodLink R_D 57 y_T_writeByte ∈ ztb := zmem 759 (by decide +kernel) (by decide +kernel)
theorem zin_D_77 : Cond.methodLink R_D 77 y_T_writeWord ∈ ztb := zmem 769 (by decide +kernel) (by decide +kernel)
theorem zin_D_81 : Cond.methodLink R_D 81 y_T_writeBytes ∈ ztb := zmem 770 (by decide +kernel) (by decide +kernel)
theorem zin_D_85 : Cond.methodLink R_D 85 y_T_writeNumber ∈ ztb := zmem 764 (by decide +kernel) (by decide +kernel)
theorem zin_H_27 : Cond.methodLink R_H 27 y_R_takeWord ∈ ztb := zmem 792 (by decide +kernel) (by decide +kernel)
theorem zin_R_38 : Cond.methodLink R_R 38 y_T_numberBytesAt ∈ ztb := zmem 527 (by decide +kernel) (by decide +kernel)
theorem zin_R_42 : Cond.methodLink R_R 42 y_T_numberAt ∈ ztb := zmem 532 (by decide +kernel) (by decide +kernel)
theorem zin_R_45 : Cond.constantLong R_R 45 (-1 : Int64) ∈ ztb := zmem 895 (by decide +kernel) (by decide +kernel)
theorem zin_G_34 : Cond.methodLink R_G 34 y_G_keepPlace ∈ ztb := zmem 632 (by decide +kernel) (by decide +kernel)
theorem zin_W_117 : Cond.methodLink R_W 117 y_R_takeNumber ∈ ztb := zmem 523 (by decide +kernel) (by decide +kernel)
theorem zin_W_121 : Cond.fieldLink R_W 121 "WireCodec$Reader" "over" "Z" ∈ ztb := zmem 124 (by decide +kernel) (by decide +kernel)
noncomputable def g_T_writeWord_c19 (kr : zT → Int64 → Int32 → Option ((zT) × Nat × Nat)) (v1 : Int64) (v4 : Int32) (sT_19 : zT) : Option ((zT) × Nat × Nat) := kr sT_19 v1 (v4 + (-1))
noncomputable def g_T_writeWord_5_b (N : Nat) (kr : zT → Int64 → Int32 → Option ((zT) × Nat × Nat)) (sT : zT) (v1 : Int64) (v4 : Int32) : Option ((zT) × Nat × Nat) := if v4 < (0 : Int32) then (some ((sT), 0, 0)) else (zcbd (g_T_writeByte sT ((v1 >>> (((8 : Int32) * v4).toInt64 &&& 63)).toInt32)) (fun a => g_T_writeWord_c19 kr v1 v4 a))
noncomputable def g_T_writeWord_5 (N : Nat) : Nat → zT → Int64 → Int32 → Option ((zT) × Nat × Nat)
  | 0 => fun _ _ _ => none
  | k + 1 => fun sT v1 v4 => g_T_writeWord_5_b N (g_T_writeWord_5 N k) sT v1 v4
noncomputable def g_T_writeWord (N : Nat) (sT : zT) (v1 : Int64) (v3 : Int32) : Option ((zT) × Nat × Nat) := g_T_writeWord_5 N N sT v1 (v3 - (1 : Int32))
def q_T_writeWord (dC : Nat → ClassId) (dI : Nat → Nat → Nat) (cB cI cL : ClassId) (A : Nat → Prop) (adT : Nat) (a : zT) : Array Value → State → Outcome → State → Prop := va_Qv (fun (u : zT × Nat) => (u.1) = a) (fun u U => va_P (dC, dI) zcl (zwT adT u.2 cB cI cL u.1) U.heap ∧ va_D A (zwT adT u.2 cB cI cL u.1)) A
set_option maxRecDepth 100000 in
set_option maxHeartbeats 4000000 in
theorem k_T_writeWord_5_b {p : Program} {l : Launch} {e : Env} {R : Room} {s : State} {m : MethodId} {args : Array Value} {below : List Frame} {meth : Method} {c : Code} {dC : Nat → ClassId} {dI : Nat → Nat → Nat} {cB cI cL : ClassId} {A : Nat → Prop} (tc tz : Nat) (kr : zT → Int64 → Int32 → Option ((zT) × Nat × Nat)) (hrec : ∀ (sT : zT) (v1 : Int64) (v4 : Int32) (a : zT) (c9 z9 cells slots : Nat), kr sT v1 v4 = some (a, c9, z9) → cells + c9 = tc → slots + z9 = tz → ∀ (adT adT_bytes : Nat) (H : Heap) (locs : List Loc), va_P (dC, dI) zcl (zwT adT adT_bytes cB cI cL sT) H → va_D A (zwT adT adT_bytes cB cI cL sT) → va_S A s.heap H locs → ∀ ls : Array Slot, lv_has ls 5 [(0, .ref adT), (1, .long v1), (4, .int v4)] → W p l e R s m args below meth c H locs cells slots (MQ below (q_T_writeWord dC dI cB cI cL A adT a) args s tc tz A) (F0 m 5 ls [])) (X : zx p s m args meth c R R_T b_T_writeWord none 5 3 103) (hA : ∀ q, s.heap.size ≤ q → A q) (zz : zk dC dI cB cI cL A s)  (N : Nat) (sT : zT) (v1 : Int64) (v4 : Int32) (a : zT) (c9 z9 cells slots : Nat) (hG : g_T_writeWord_5_b N kr sT v1 v4 = some (a, c9, z9)) (kc : cells + c9 = tc) (kz : slots + z9 = tz) (hRc : tc ≤ R.cells) (hRz : tz ≤ R.slots) (adT adT_bytes : Nat) (H : Heap) (locs : List Loc) (hP : va_P (dC, dI) zcl (zwT adT adT_bytes cB cI cL sT) H) (hD : va_D A (zwT adT adT_bytes cB cI cL sT)) (hS : va_S A s.heap H locs) (ls : Array Slot) (hl : lv_has ls 5 [(0, .ref adT), (1, .long v1), (4, .int v4)]) : W p l e R s m args below meth c H locs cells slots (MQ below (q_T_writeWord dC dI cB cI cL A adT a) args s tc tz A) (F0 m 5 ls []) := by
  obtain ⟨hx, hb, hr, hml, hown, hts, hlocks, hRf, hRl⟩ := id X
  unfold g_T_writeWord_5_b at hG
  refine lv_iload hx hb d_T_writeWord_5 (lv_at hl 2 rfl) ?_
  refine lv_if_lt (tgt := 28) hx hb d_T_writeWord_7 (by decide) (fun hc => ?_) (fun hc => ?_)
  · have hG := zt hG hc
    obtain ⟨hG, e91, e92⟩ := zc0 hG
    refine W.widen (k := tc) (n := tz) (Nat.le.intro kc) (Nat.le.intro kz) ?_
    exact W.vret hx hb hr (fun t9 ht9 hW9 => ⟨⟨(sT, adT_bytes), rfl, hG, by rw [ht9]; exact hP, hD⟩, hS.F ht9⟩) hS.2.2 d_T_writeWord_28
  · have hG := zf hG hc
    refine lv_aload_n hx hb d_T_writeWord_10 rfl (lv_at hl 0 rfl) ?_
    refine lv_lload_n hx hb d_T_writeWord_11 rfl (lv_at hl 1 rfl) ?_
    refine lv_bipush (v := (8 : Int32)) hx hb d_T_writeWord_12 (by decide) ?_
    refine lv_iload hx hb d_T_writeWord_14 (lv_at hl 2 rfl) ?_
    refine lv_imul hx hb d_T_writeWord_16 ?_
    refine lv_lshr hx hb d_T_writeWord_17 rfl ?_
    refine lv_l2i hx hb d_T_writeWord_18 rfl ?_
    obtain ⟨a_19, c_19, z_19, c9, z9, hx_19, hG, kc, kz⟩ := zcbde hG kc kz
    have hr_19 := zrunV (p := p) (e := e) (below := below) (meth := meth) (As := [.int ((v1 >>> (((8 : Int32) * v4).toInt64 &&& 63)).toInt32)]) (rest := []) (st0 := [.int ((v1 >>> (((8 : Int32) * v4).toInt64 &&& 63)).toInt32), .ref adT]) (cells := cells) (slots := slots) X zz hP hD hS hA [0, 1] (by decide) rfl (c_T_writeByte l dC dI cB cI cL H.size adT adT_bytes sT ((v1 >>> (((8 : Int32) * v4).toInt64 &&& 63)).toInt32) _ _ _ hx_19) zy_T_writeByte zv_T_writeByte (hts (.methodLink R_T 37 y_T_writeByte) zin_T_37) hl rfl rfl d_T_writeWord_19 (lv_room (Nat.le_of_ble_eq_true rfl)) rfl rfl ⟨Nat.le_trans (Nat.le_of_ble_eq_true rfl) hRf, Nat.le_trans (Nat.le_of_ble_eq_true rfl) hRl⟩ ⟨zle kc hRc, zle kz hRz⟩ 0 1 rfl rfl
    refine zcallv (wr := ([] : va_W)) hr_19 hP hD hS hA [0, 1] [] rfl rfl (by decide) (by decide) (fun u_19 H locs hw_19 hP hD hS => ?_)
    obtain ⟨sT_19, qT_bytes_19⟩ := u_19
    subst hw_19
    have hP : va_P (dC, dI) zcl (zwT adT qT_bytes_19 cB cI cL sT_19) H := hP
    have hD : va_D A (zwT adT qT_bytes_19 cB cI cL sT_19) := hD
    have hG : g_T_writeWord_c19 kr v1 v4 sT_19 = some (a, c9, z9) := hG
    unfold g_T_writeWord_c19 at hG
    generalize cells + c_19 = cells at kc ⊢
    generalize slots + z_19 = slots at kz ⊢
    refine lv_iinc (v := v4 + (-1)) (lv' := [(4, .int (v4 + (-1))), (0, .ref adT), (1, .long v1)]) hx hb d_T_writeWord_22 hl (k := 2) rfl rfl (by decide) rfl (fun ls hl => ?_)
    refine lv_goto (tgt := 5) hx hb d_T_writeWord_25 (by decide) ?_
    exact hrec sT_19 v1 (v4 + (-1)) _ _ _ _ _ hG kc kz adT qT_bytes_19 _ _ hP hD hS _ (lv_sub hl [1, 2, 0] rfl)
theorem k_T_writeWord_5 {p : Program} {l : Launch} {e : Env} {R : Room} {s : State} {m : MethodId} {args : Array Value} {below : List Frame} {meth : Method} {c : Code} {dC : Nat → ClassId} {dI : Nat → Nat → Nat} {cB cI cL : ClassId} {A : Nat → Prop} (X : zx p s m args meth c R R_T b_T_writeWord none 5 3 103) (hA : ∀ q, s.heap.size ≤ q → A q) (zz : zk dC dI cB cI cL A s)  (N : Nat) (tc tz : Nat) (hRc : tc ≤ R.cells) (hRz : tz ≤ R.slots) : ∀ (k : Nat) (sT : zT) (v1 : Int64) (v4 : Int32) (a : zT) (c9 z9 cells slots : Nat) (hG : g_T_writeWord_5 N k sT v1 v4 = some (a, c9, z9)) (kc : cells + c9 = tc) (kz : slots + z9 = tz) (adT adT_bytes : Nat) (H : Heap) (locs : List Loc) (hP : va_P (dC, dI) zcl (zwT adT adT_bytes cB cI cL sT) H) (hD : va_D A (zwT adT adT_bytes cB cI cL sT)) (hS : va_S A s.heap H locs) (ls : Array Slot) (hl : lv_has ls 5 [(0, .ref adT), (1, .long v1), (4, .int v4)]), W p l e R s m args below meth c H locs cells slots (MQ below (q_T_writeWord dC dI cB cI cL A adT a) args s tc tz A) (F0 m 5 ls []) := by
  intro k
  induction k with
  | zero => intro sT v1 v4 a c9 z9 cells slots hG; exact absurd hG (by unfold g_T_writeWord_5; simp)
  | succ k ih => intro sT v1 v4 a c9 z9 cells slots hG kc kz adT adT_bytes H locs hP hD hS ls hl; exact k_T_writeWord_5_b tc tz _ ih X hA zz N sT v1 v4 a c9 z9 cells slots hG kc kz hRc hRz adT adT_bytes H locs hP hD hS ls hl
set_option maxRecDepth 100000 in
set_option maxHeartbeats 4000000 in
theorem k_T_writeWord_0 {p : Program} {l : Launch} {e : Env} {R : Room} {s : State} {m : MethodId} {args : Array Value} {below : List Frame} {meth : Method} {c : Code} {dC : Nat → ClassId} {dI : Nat → Nat → Nat} {cB cI cL : ClassId} {A : Nat → Prop} (X : zx p s m args meth c R R_T b_T_writeWord none 5 3 103) (hA : ∀ q, s.heap.size ≤ q → A q) (zz : zk dC dI cB cI cL A s)  (N : Nat) (sT : zT) (v1 : Int64) (v3 : Int32) (a : zT) (c9 z9 cells slots tc tz : Nat) (hG : g_T_writeWord N sT v1 v3 = some (a, c9, z9)) (kc : cells + c9 = tc) (kz : slots + z9 = tz) (hRc : tc ≤ R.cells) (hRz : tz ≤ R.slots) (adT adT_bytes : Nat) (H : Heap) (locs : List Loc) (hP : va_P (dC, dI) zcl (zwT adT adT_bytes cB cI cL sT) H) (hD : va_D A (zwT adT adT_bytes cB cI cL sT)) (hS : va_S A s.heap H locs) (ls : Array Slot) (hl : lv_has ls 5 [(0, .ref adT), (1, .long v1), (3, .int v3)]) : W p l e R s m args below meth c H locs cells slots (MQ below (q_T_writeWord dC dI cB cI cL A adT a) args s tc tz A) (F0 m 0 ls []) := by
  obtain ⟨hx, hb, hr, hml, hown, hts, hlocks, hRf, hRl⟩ := id X
  unfold g_T_writeWord at hG
  refine lv_iload_n hx hb d_T_writeWord_0 rfl (lv_at hl 2 rfl) ?_
  refine lv_iconst (v := (1 : Int32)) hx hb d_T_writeWord_1 (by decide) ?_
  refine lv_isub hx hb d_T_writeWord_2 ?_
  refine lv_istore (lv' := [(4, .int (v3 - (1 : Int32))), (0, .ref adT), (1, .long v1), (3, .int v3)]) hx hb d_T_writeWord_3 hl (by decide) rfl (fun ls hl => ?_)
  exact k_T_writeWord_5 X hA zz N _ _ hRc hRz N sT v1 (v3 - (1 : Int32)) _ _ _ _ _ hG kc kz adT adT_bytes _ _ hP hD hS _ (lv_sub hl [1, 2, 0] rfl)
set_option maxRecDepth 100000 in
set_option maxHeartbeats 4000000 in
theorem c_T_writeWord (l : Launch) (dC : Nat → ClassId) (dI : Nat → Nat → Nat) (cB cI cL : ClassId) (sz : Nat) (adT adT_bytes : Nat) (N : Nat) (sT : zT) (v1 : Int64) (v3 : Int32) (a : zT) (c9 z9 : Nat) (hG : g_T_writeWord N sT v1 v3 = some (a, c9, z9)) : Met l y_T_writeWord (zw y_T_writeWord b_T_writeWord 5 none) ({ frames := 3, cells := c9, slots := z9, locals := 103 }) (va_Pc [.ref adT, .long v1, .int v3] (zpre dC dI cB cI cL sz (zwT adT adT_bytes cB cI cL sT))) (q_T_writeWord dC dI cB cI cL (va_A (zwT adT adT_bytes cB cI cL sT) sz) adT a) c9 z9 (va_A (zwT adT adT_bytes cB cI cL sT) sz) := by
  refine Met.ofW (cc := b_T_writeWord) (maxL := 5) (ret := none) (by decide) rfl ?_
  intro p e s m args below meth c s₁ B hml hv
  obtain ⟨rfl, hsz, hP, zz, hD0⟩ := hv
  subst hsz
  have X := zx_of (F := 3) (L := 103) B hml (Nat.le_refl _) (Nat.le_refl _)
  have hD := hD0.self (sz := s.heap.size)
  have hA : ∀ q : Nat, s.heap.size ≤ q → va_A (zwT adT adT_bytes cB cI cL sT) s.heap.size q := fun q h => Or.inr h
  have hl := lv_entry ([.ref adT, .long v1, .int v3]) (n := 5) (Nat.le_of_ble_eq_true rfl)
  rw [lg_entry_eq]
  generalize (lg_sl ([.ref adT, .long v1, .int v3]) ++ List.replicate (5 - (lg_sl ([.ref adT, .long v1, .int v3])).length) Slot.unset).toArray = ls at hl ⊢
  exact k_T_writeWord_0 X hA zz N sT v1 v3 a c9 z9 0 0 c9 z9 hG (Nat.zero_add _) (Nat.zero_add _) (Nat.le_refl _) (Nat.le_refl _) adT adT_bytes _ _ hP hD va_S.rf ls hl
noncomputable def g_T_writeNumber_c49 (sT_49 : zT) : Option ((zT) × Nat × Nat) := some ((sT_49), 0, 0)
noncomputable def g_T_writeNumber_32 (N : Nat) (sT : zT) (v1 : Int64) (v4 : Int32) (s0 : Int64) : Option ((zT) × Nat × Nat) := zcbd (g_T_writeWord N sT (v1 ||| (s0 <<< ((((8 : Int32) * v4) - (2 : Int32)).toInt64 &&& 63))) v4) (fun a => g_T_writeNumber_c49 a)
noncomputable def g_T_writeNumber_12 (N : Nat) (sT : zT) (v1 : Int64) (s0 : Int32) : Option ((zT) × Nat × Nat) := if s0 = (8 : Int32) then (g_T_writeNumber_32 N sT v1 s0 (3 : Int64)) else (g_T_writeNumber_32 N sT v1 s0 ((s0 >>> ((1 : Int32) &&& 31)).toInt64))
noncomputable def g_T_writeNumber_c5 (N : Nat) (sT : zT) (v1 : Int64) (r_5 : Int32) : Option ((zT) × Nat × Nat) := g_T_writeNumber_12 N sT v1 r_5
noncomputable def g_T_writeNumber (N : Nat) (sT : zT) (v1 : Int64) (v3 : Int32) : Option ((zT) × Nat × Nat) := if v3 = (0 : Int32) then ((g_W_fewestBytes v1).bind (fun a => g_T_writeNumber_c5 N sT v1 a)) else (g_T_writeNumber_12 N sT v1 v3)
def q_T_writeNumber (dC : Nat → ClassId) (dI : Nat → Nat → Nat) (cB cI cL : ClassId) (A : Nat → Prop) (adT : Nat) (a : zT) : Array Value → State → Outcome → State → Prop := va_Qv (fun (u : zT × Nat) => (u.1) = a) (fun u U => va_P (dC, dI) zcl (zwT adT u.2 cB cI cL u.1) U.heap ∧ va_D A (zwT adT u.2 cB cI cL u.1)) A
set_option maxRecDepth 100000 in
set_option maxHeartbeats 4000000 in
theorem k_T_writeNumber_32 {p : Program} {l : Launch} {e : Env} {R : Room} {s : State} {m : MethodId} {args : Array Value} {below : List Frame} {meth : Method} {c : Code} {dC : Nat → ClassId} {dI : Nat → Nat → Nat} {cB cI cL : ClassId} {A : Nat → Prop} (X : zx p s m args meth c R R_T b_T_writeNumber none 7 4 127) (hA : ∀ q, s.heap.size ≤ q → A q) (zz : zk dC dI cB cI cL A s)  (N : Nat) (sT : zT) (v1 : Int64) (v4 : Int32) (s0 : Int64) (a : zT) (c9 z9 cells slots tc tz : Nat) (hG : g_T_writeNumber_32 N sT v1 v4 s0 = some (a, c9, z9)) (kc : cells + c9 = tc) (kz : slots + z9 = tz) (hRc : tc ≤ R.cells) (hRz : tz ≤ R.slots) (adT adT_bytes : Nat) (H : Heap) (locs : List Loc) (hP : va_P (dC, dI) zcl (zwT adT adT_bytes cB cI cL sT) H) (hD : va_D A (zwT adT adT_bytes cB cI cL sT)) (hS : va_S A s.heap H locs) (ls : Array Slot) (hl : lv_has ls 7 [(0, .ref adT), (1, .long v1), (4, .int v4)]) : W p l e R s m args below meth c H locs cells slots (MQ below (q_T_writeNumber dC dI cB cI cL A adT a) args s tc tz A) (F0 m 32 ls [.long s0]) := by
  obtain ⟨hx, hb, hr, hml, hown, hts, hlocks, hRf, hRl⟩ := id X
  unfold g_T_writeNumber_32 at hG
  refine lv_lstore (lv' := [(5, .long s0), (0, .ref adT), (1, .long v1), (4, .int v4)]) hx hb d_T_writeNumber_32 hl (by decide) rfl (fun ls hl => ?_)
  refine lv_aload_n hx hb d_T_writeNumber_34 rfl (lv_at hl 1 rfl) ?_
  refine lv_lload_n hx hb d_T_writeNumber_35 rfl (lv_at hl 2 rfl) ?_
  refine lv_lload hx hb d_T_writeNumber_36 (lv_at hl 0 rfl) ?_
  refine lv_bipush (v := (8 : Int32)) hx hb d_T_writeNumber_38 (by decide) ?_
  refine lv_iload hx hb d_T_writeNumber_40 (lv_at hl 3 rfl) ?_
  refine lv_imul hx hb d_T_writeNumber_42 ?_
  refine lv_iconst (v := (2 : Int32)) hx hb d_T_writeNumber_43 (by decide) ?_
  refine lv_isub hx hb d_T_writeNumber_44 ?_
  refine lv_lshl hx hb d_T_writeNumber_45 rfl ?_
  refine lv_lor hx hb d_T_writeNumber_46 ?_
  refine lv_iload hx hb d_T_writeNumber_47 (lv_at hl 3 rfl) ?_
  obtain ⟨a_49, c_49, z_49, c9, z9, hx_49, hG, kc, kz⟩ := zcbde hG kc kz
  have hr_49 := zrunV (p := p) (e := e) (below := below) (meth := meth) (As := [.long (v1 ||| (s0 <<< ((((8 : Int32) * v4) - (2 : Int32)).toInt64 &&& 63))), .int v4]) (rest := []) (st0 := [.int v4, .long (v1 ||| (s0 <<< ((((8 : Int32) * v4) - (2 : Int32)).toInt64 &&& 63))), .ref adT]) (cells := cells) (slots := slots) X zz hP hD hS hA [0, 1] (by decide) rfl (c_T_writeWord l dC dI cB cI cL H.size adT adT_bytes N sT (v1 ||| (s0 <<< ((((8 : Int32) * v4) - (2 : Int32)).toInt64 &&& 63))) v4 _ _ _ hx_49) zy_T_writeWord zv_T_writeWord (hts (.methodLink R_T 47 y_T_writeWord) zin_T_47) hl rfl rfl d_T_writeNumber_49 (lv_room (Nat.le_of_ble_eq_true rfl)) rfl rfl ⟨Nat.le_trans (Nat.le_of_ble_eq_true rfl) hRf, Nat.le_trans (Nat.le_of_ble_eq_true rfl) hRl⟩ ⟨zle kc hRc, zle kz hRz⟩ 0 1 rfl rfl
  refine zcallv (wr := ([] : va_W)) hr_49 hP hD hS hA [0, 1] [] rfl rfl (by decide) (by decide) (fun u_49 H locs hw_49 hP hD hS => ?_)
  obtain ⟨sT_49, qT_bytes_49⟩ := u_49
  subst hw_49
  have hP : va_P (dC, dI) zcl (zwT adT qT_bytes_49 cB cI cL sT_49) H := hP
  have hD : va_D A (zwT adT qT_bytes_49 cB cI cL sT_49) := hD
  have hG : g_T_writeNumber_c49 sT_49 = some (a, c9, z9) := hG
  unfold g_T_writeNumber_c49 at hG
  generalize cells + c_49 = cells at kc ⊢
  generalize slots + z_49 = slots at kz ⊢
  obtain ⟨hG, e91, e92⟩ := zc0 hG
  refine W.widen (k := tc) (n := tz) (Nat.le.intro kc) (Nat.le.intro kz) ?_
  exact W.vret hx hb hr (fun t9 ht9 hW9 => ⟨⟨(sT_49, qT_bytes_49), rfl, hG, by rw [ht9]; exact hP, hD⟩, hS.F ht9⟩) hS.2.2 d_T_writeNumber_52
set_option maxRecDepth 100000 in
set_option maxHeartbeats 4000000 in
theorem k_T_writeNumber_12 {p : Program} {l : Launch} {e : Env} {R : Room} {s : State} {m : MethodId} {args : Array Value} {below : List Frame} {meth : Method} {c : Code} {dC : Nat → ClassId} {dI : Nat → Nat → Nat} {cB cI cL : ClassId} {A : Nat → Prop} (X : zx p s m args meth c R R_T b_T_writeNumber none 7 4 127) (hA : ∀ q, s.heap.size ≤ q → A q) (zz : zk dC dI cB cI cL A s)  (N : Nat) (sT : zT) (v1 : Int64) (s0 : Int32) (a : zT) (c9 z9 cells slots tc tz : Nat) (hG : g_T_writeNumber_12 N sT v1 s0 = some (a, c9, z9)) (kc : cells + c9 = tc) (kz : slots + z9 = tz) (hRc : tc ≤ R.cells) (hRz : tz ≤ R.slots) (adT adT_bytes : Nat) (H : Heap) (locs : List Loc) (hP : va_P (dC, dI) zcl (zwT adT adT_bytes cB cI cL sT) H) (hD : va_D A (zwT adT adT_bytes cB cI cL sT)) (hS : va_S A s.heap H locs) (ls : Array Slot) (hl : lv_has ls 7 [(0, .ref adT), (1, .long v1)]) : W p l e R s m args below meth c H locs cells slots (MQ below (q_T_writeNumber dC dI cB cI cL A adT a) args s tc tz A) (F0 m 12 ls [.int s0]) := by
  obtain ⟨hx, hb, hr, hml, hown, hts, hlocks, hRf, hRl⟩ := id X
  unfold g_T_writeNumber_12 at hG
  refine lv_istore (lv' := [(4, .int s0), (0, .ref adT), (1, .long v1)]) hx hb d_T_writeNumber_12 hl (by decide) rfl (fun ls hl => ?_)
  refine lv_iload hx hb d_T_writeNumber_14 (lv_at hl 0 rfl) ?_
  refine lv_bipush (v := (8 : Int32)) hx hb d_T_writeNumber_16 (by decide) ?_
  refine lv_icmp_ne (tgt := 27) hx hb d_T_writeNumber_18 (by decide) (fun hc => ?_) (fun hc => ?_)
  · have hG := zf hG hc
    refine lv_iload hx hb d_T_writeNumber_27 (lv_at hl 0 rfl) ?_
    refine lv_iconst (v := (1 : Int32)) hx hb d_T_writeNumber_29 (by decide) ?_
    refine lv_ishr hx hb d_T_writeNumber_30 ?_
    refine lv_i2l hx hb d_T_writeNumber_31 rfl ?_
    exact k_T_writeNumber_32 X hA zz N sT v1 s0 ((s0 >>> ((1 : Int32) &&& 31)).toInt64) _ _ _ _ _ _ _ hG kc kz hRc hRz adT adT_bytes _ _ hP hD hS _ (lv_sub hl [1, 2, 0] rfl)
  · have hG := zt hG hc
    refine lv_ldc2 (v := (3 : Int64)) hx hb hown (hts (.constantLong R_T 45 (3 : Int64)) zin_T_45) d_T_writeNumber_21 ?_
    refine lv_goto (tgt := 32) hx hb d_T_writeNumber_24 (by decide) ?_
    exact k_T_writeNumber_32 X hA zz N sT v1 s0 (3 : Int64) _ _ _ _ _ _ _ hG kc kz hRc hRz adT adT_bytes _ _ hP hD hS _ (lv_sub hl [1, 2, 0] rfl)
set_option maxRecDepth 100000 in
set_option maxHeartbeats 4000000 in
theorem k_T_writeNumber_0 {p : Program} {l : Launch} {e : Env} {R : Room} {s : State} {m : MethodId} {args : Array Value} {below : List Frame} {meth : Method} {c : Code} {dC : Nat → ClassId} {dI : Nat → Nat → Nat} {cB cI cL : ClassId} {A : Nat → Prop} (X : zx p s m args meth c R R_T b_T_writeNumber none 7 4 127) (hA : ∀ q, s.heap.size ≤ q → A q) (zz : zk dC dI cB cI cL A s)  (N : Nat) (sT : zT) (v1 : Int64) (v3 : Int32) (a : zT) (c9 z9 cells slots tc tz : Nat) (hG : g_T_writeNumber N sT v1 v3 = some (a, c9, z9)) (kc : cells + c9 = tc) (kz : slots + z9 = tz) (hRc : tc ≤ R.cells) (hRz : tz ≤ R.slots) (adT adT_bytes : Nat) (H : Heap) (locs : List Loc) (hP : va_P (dC, dI) zcl (zwT adT adT_bytes cB cI cL sT) H) (hD : va_D A (zwT adT adT_bytes cB cI cL sT)) (hS : va_S A s.heap H locs) (ls : Array Slot) (hl : lv_has ls 7 [(0, .ref adT), (1, .long v1), (3, .int v3)]) : W p l e R s m args below meth c H locs cells slots (MQ below (q_T_writeNumber dC dI cB cI cL A adT a) args s tc tz A) (F0 m 0 ls []) := by
  obtain ⟨hx, hb, hr, hml, hown, hts, hlocks, hRf, hRl⟩ := id X
  unfold g_T_writeNumber at hG
  refine lv_iload_n hx hb d_T_writeNumber_0 rfl (lv_at hl 2 rfl) ?_
  refine lv_if_ne (tgt := 11) hx hb d_T_writeNumber_1 (by decide) (fun hc => ?_) (fun hc => ?_)
  · have hG := zf hG hc
    refine lv_iload_n hx hb d_T_writeNumber_11 rfl (lv_at hl 2 rfl) ?_
    exact k_T_writeNumber_12 X hA zz N sT v1 v3 _ _ _ _ _ _ _ hG kc kz hRc hRz adT adT_bytes _ _ hP hD hS _ (lv_sub hl [0, 1] rfl)
  · have hG := zt hG hc
    refine lv_lload_n hx hb d_T_writeNumber_4 rfl (lv_at hl 1 rfl) ?_
    obtain ⟨a_5, hx_5, hG⟩ := zb hG
    have hr_5 := zrunSN (p := p) (e := e) (below := below) (meth := meth) (As := [.long v1]) (rest := []) (st0 := [.long v1]) (cells := cells) (slots := slots) X zz hP hD hS hA [] (by decide) rfl (c_W_fewestBytes l dC dI cB cI cL H.size v1 _ hx_5) zy_W_fewestBytes zv_W_fewestBytes (zz.2.1 _ znest_T_41) hl rfl rfl d_T_writeNumber_5 (lv_room (Nat.le_of_ble_eq_true rfl)) rfl rfl ⟨Nat.le_trans (Nat.le_of_ble_eq_true rfl) hRf, Nat.le_trans (Nat.le_of_ble_eq_true rfl) hRl⟩ ⟨zle kc hRc, zle kz hRz⟩
    refine zcalli (wr := (zwT adT adT_bytes cB cI cL sT)) hr_5 hP hD hS hA [] [0, 1] rfl rfl (by decide) (by decide) (fun r_5 u_5 H locs hw_5 hP hD hS => ?_)
    subst hw_5
    have hP : va_P (dC, dI) zcl (zwT adT adT_bytes cB cI cL sT) H := hP
    have hD : va_D A (zwT adT adT_bytes cB cI cL sT) := hD
    have hG : g_T_writeNumber_c5 N sT v1 r_5 = some (a, c9, z9) := hG
    unfold g_T_writeNumber_c5 at hG
    refine lv_goto (tgt := 12) hx hb d_T_writeNumber_8 (by decide) ?_
    exact k_T_writeNumber_12 X hA zz N sT v1 r_5 _ _ _ _ _ _ _ hG kc kz hRc hRz adT adT_bytes _ _ hP hD hS _ (lv_sub hl [0, 1] rfl)
set_option maxRecDepth 100000 in
set_option maxHeartbeats 4000000 in
theorem c_T_writeNumber (l : Launch) (dC : Nat → ClassId) (dI : Nat → Nat → Nat) (cB cI cL : ClassId) (sz : Nat) (adT adT_bytes : Nat) (N : Nat) (sT : zT) (v1 : Int64) (v3 : Int32) (a : zT) (c9 z9 : Nat) (hG : g_T_writeNumber N sT v1 v3 = some (a, c9, z9)) : Met l y_T_writeNumber (zw y_T_writeNumber b_T_writeNumber 7 none) ({ frames := 4, cells := c9, slots := z9, locals := 127 }) (va_Pc [.ref adT, .long v1, .int v3] (zpre dC dI cB cI cL sz (zwT adT adT_bytes cB cI cL sT))) (q_T_writeNumber dC dI cB cI cL (va_A (zwT adT adT_bytes cB cI cL sT) sz) adT a) c9 z9 (va_A (zwT adT adT_bytes cB cI cL sT) sz) := by
  refine Met.ofW (cc := b_T_writeNumber) (maxL := 7) (ret := none) (by decide) rfl ?_
  intro p e s m args below meth c s₁ B hml hv
  obtain ⟨rfl, hsz, hP, zz, hD0⟩ := hv
  subst hsz
  have X := zx_of (F := 4) (L := 127) B hml (Nat.le_refl _) (Nat.le_refl _)
  have hD := hD0.self (sz := s.heap.size)
  have hA : ∀ q : Nat, s.heap.size ≤ q → va_A (zwT adT adT_bytes cB cI cL sT) s.heap.size q := fun q h => Or.inr h
  have hl := lv_entry ([.ref adT, .long v1, .int v3]) (n := 7) (Nat.le_of_ble_eq_true rfl)
  rw [lg_entry_eq]
  generalize (lg_sl ([.ref adT, .long v1, .int v3]) ++ List.replicate (7 - (lg_sl ([.ref adT, .long v1, .int v3])).length) Slot.unset).toArray = ls at hl ⊢
  exact k_T_writeNumber_0 X hA zz N sT v1 v3 a c9 z9 0 0 c9 z9 hG (Nat.zero_add _) (Nat.zero_add _) (Nat.le_refl _) (Nat.le_refl _) adT adT_bytes _ _ hP hD va_S.rf ls hl
noncomputable def g_T_writeBytes_35 (N : Nat) (sT : zT) (x1 : (Nat → Int32)) (x1n : Nat) : Option ((zT) × Nat × Nat) := some ((sT), 0, 0)
noncomputable def g_T_writeBytes_c26 (kr : zT → (Nat → Int32) → Nat → Int32 → Int32 → Option ((zT) × Nat × Nat)) (x1 : (Nat → Int32)) (x1n : Nat) (v3 : Int32) (v4 : Int32) (sT_26 : zT) : Option ((zT) × Nat × Nat) := kr sT_26 x1 x1n v3 (v4 + 1)
noncomputable def g_T_writeBytes_3_b (N : Nat) (kr : zT → (Nat → Int32) → Nat → Int32 → Int32 → Option ((zT) × Nat × Nat)) (sT : zT) (x1 : (Nat → Int32)) (x1n : Nat) (v3 : Int32) (v4 : Int32) : Option ((zT) × Nat × Nat) := if v4 < (0 : Int32) then (g_T_writeBytes_35 N sT x1 x1n) else (if v3 ≤ v4 then (g_T_writeBytes_35 N sT x1 x1n) else (if (nI x1n) ≤ v4 then (g_T_writeBytes_35 N sT x1 x1n) else (zg (vp_in v4 x1n) (zcbd (g_T_writeByte sT (x1 v4.toNatClampNeg)) (fun a => g_T_writeBytes_c26 kr x1 x1n v3 v4 a)))))
noncomputable def g_T_writeBytes_3 (N : Nat) : Nat → zT → (Nat → Int32) → Nat → Int32 → Int32 → Option ((zT) × Nat × Nat)
  | 0 => fun _ _ _ _ _ => none
  | k + 1 => fun sT x1 x1n v3 v4 => g_T_writeBytes_3_b N (g_T_writeBytes_3 N k) sT x1 x1n v3 v4
noncomputable def g_T_writeBytes (N : Nat) (sT : zT) (x1 : (Nat → Int32)) (x1n : Nat) (v2 : Int32) (v3 : Int32) : Option ((zT) × Nat × Nat) := g_T_writeBytes_3 N N sT x1 x1n v3 v2
def q_T_writeBytes (dC : Nat → ClassId) (dI : Nat → Nat → Nat) (cB cI cL : ClassId) (A : Nat → Prop) (adT : Nat) (adx1 : Nat) (x1 : (Nat → Int32)) (x1n : Nat) (a : zT) : Array Value → State → Outcome → State → Prop := va_Qv (fun (u : zT × Nat) => (u.1) = a) (fun u U => va_P (dC, dI) zcl (zwT adT u.2 cB cI cL u.1 ++ [(adx1, .inl (cB, x1n, .inl x1))]) U.heap ∧ va_D A (zwT adT u.2 cB cI cL u.1 ++ [(adx1, .inl (cB, x1n, .inl x1))])) A
set_option maxRecDepth 100000 in
set_option maxHeartbeats 4000000 in
theorem k_T_writeBytes_35 {p : Program} {l : Launch} {e : Env} {R : Room} {s : State} {m : MethodId} {args : Array Value} {below : List Frame} {meth : Method} {c : Code} {dC : Nat → ClassId} {dI : Nat → Nat → Nat} {cB cI cL : ClassId} {A : Nat → Prop} (X : zx p s m args meth c R R_T b_T_writeBytes none 5 3 103) (hA : ∀ q, s.heap.size ≤ q → A q) (zz : zk dC dI cB cI cL A s)  (N : Nat) (sT : zT) (x1 : (Nat → Int32)) (x1n : Nat) (a : zT) (c9 z9 cells slots tc tz : Nat) (hG : g_T_writeBytes_35 N sT x1 x1n = some (a, c9, z9)) (kc : cells + c9 = tc) (kz : slots + z9 = tz) (hRc : tc ≤ R.cells) (hRz : tz ≤ R.slots) (adT adT_bytes adx1 : Nat) (H : Heap) (locs : List Loc) (hP : va_P (dC, dI) zcl (zwT adT adT_bytes cB cI cL sT ++ [(adx1, .inl (cB, x1n, .inl x1))]) H) (hD : va_D A (zwT adT adT_bytes cB cI cL sT ++ [(adx1, .inl (cB, x1n, .inl x1))])) (hS : va_S A s.heap H locs) (ls : Array Slot) (hl : lv_has ls 5 []) : W p l e R s m args below meth c H locs cells slots (MQ below (q_T_writeBytes dC dI cB cI cL A adT adx1 x1 x1n a) args s tc tz A) (F0 m 35 ls []) := by
  obtain ⟨hx, hb, hr, hml, hown, hts, hlocks, hRf, hRl⟩ := id X
  unfold g_T_writeBytes_35 at hG
  obtain ⟨hG, e91, e92⟩ := zc0 hG
  refine W.widen (k := tc) (n := tz) (Nat.le.intro kc) (Nat.le.intro kz) ?_
  exact W.vret hx hb hr (fun t9 ht9 hW9 => ⟨⟨(sT, adT_bytes), rfl, hG, by rw [ht9]; exact hP, hD⟩, hS.F ht9⟩) hS.2.2 d_T_writeBytes_35
set_option maxRecDepth 100000 in
set_option maxHeartbeats 4000000 in
theorem k_T_writeBytes_3_b {p : Program} {l : Launch} {e : Env} {R : Room} {s : State} {m : MethodId} {args : Array Value} {below : List Frame} {meth : Method} {c : Code} {dC : Nat → ClassId} {dI : Nat → Nat → Nat} {cB cI cL : ClassId} {A : Nat → Prop} (tc tz : Nat) (kr : zT → (Nat → Int32) → Nat → Int32 → Int32 → Option ((zT) × Nat × Nat)) (hrec : ∀ (sT : zT) (x1 : (Nat → Int32)) (x1n : Nat) (v3 : Int32) (v4 : Int32) (a : zT) (c9 z9 cells slots : Nat), kr sT x1 x1n v3 v4 = some (a, c9, z9) → cells + c9 = tc → slots + z9 = tz → ∀ (adT adT_bytes adx1 : Nat) (H : Heap) (locs : List Loc), va_P (dC, dI) zcl (zwT adT adT_bytes cB cI cL sT ++ [(adx1, .inl (cB, x1n, .inl x1))]) H → va_D A (zwT adT adT_bytes cB cI cL sT ++ [(adx1, .inl (cB, x1n, .inl x1))]) → va_S A s.heap H locs → ∀ ls : Array Slot, lv_has ls 5 [(0, .ref adT), (1, .ref adx1), (3, .int v3), (4, .int v4)] → W p l e R s m args below meth c H locs cells slots (MQ below (q_T_writeBytes dC dI cB cI cL A adT adx1 x1 x1n a) args s tc tz A) (F0 m 3 ls [])) (X : zx p s m args meth c R R_T b_T_writeBytes none 5 3 103) (hA : ∀ q, s.heap.size ≤ q → A q) (zz : zk dC dI cB cI cL A s)  (N : Nat) (sT : zT) (x1 : (Nat → Int32)) (x1n : Nat) (v3 : Int32) (v4 : Int32) (a : zT) (c9 z9 cells slots : Nat) (hG : g_T_writeBytes_3_b N kr sT x1 x1n v3 v4 = some (a, c9, z9)) (kc : cells + c9 = tc) (kz : slots + z9 = tz) (hRc : tc ≤ R.cells) (hRz : tz ≤ R.slots) (adT adT_bytes adx1 : Nat) (H : Heap) (locs : List Loc) (hP : va_P (dC, dI) zcl (zwT adT adT_bytes cB cI cL sT ++ [(adx1, .inl (cB, x1n, .inl x1))]) H) (hD : va_D A (zwT adT adT_bytes cB cI cL sT ++ [(adx1, .inl (cB, x1n, .inl x1))])) (hS : va_S A s.heap H locs) (ls : Array Slot) (hl : lv_has ls 5 [(0, .ref adT), (1, .ref adx1), (3, .int v3), (4, .int v4)]) : W p l e R s m args below meth c H locs cells slots (MQ below (q_T_writeBytes dC dI cB cI cL A adT adx1 x1 x1n a) args s tc tz A) (F0 m 3 ls []) := by
  obtain ⟨hx, hb, hr, hml, hown, hts, hlocks, hRf, hRl⟩ := id X
  unfold g_T_writeBytes_3_b at hG
  refine lv_iload hx hb d_T_writeBytes_3 (lv_at hl 3 rfl) ?_
  refine lv_if_lt (tgt := 35) hx hb d_T_writeBytes_5 (by decide) (fun hc => ?_) (fun hc => ?_)
  · have hG := zt hG hc
    exact k_T_writeBytes_35 X hA zz N sT x1 x1n _ _ _ _ _ _ _ hG kc kz hRc hRz adT adT_bytes adx1 _ _ hP hD hS _ (lv_sub hl [] rfl)
  · have hG := zf hG hc
    refine lv_iload hx hb d_T_writeBytes_8 (lv_at hl 3 rfl) ?_
    refine lv_iload_n hx hb d_T_writeBytes_10 rfl (lv_at hl 2 rfl) ?_
    refine lv_icmp_ge (tgt := 35) hx hb d_T_writeBytes_11 (by decide) (fun hc => ?_) (fun hc => ?_)
    · have hG := zt hG hc
      exact k_T_writeBytes_35 X hA zz N sT x1 x1n _ _ _ _ _ _ _ hG kc kz hRc hRz adT adT_bytes adx1 _ _ hP hD hS _ (lv_sub hl [] rfl)
    · have hG := zf hG hc
      refine lv_iload hx hb d_T_writeBytes_14 (lv_at hl 3 rfl) ?_
      refine lv_aload_n hx hb d_T_writeBytes_16 rfl (lv_at hl 1 rfl) ?_
      refine va_alen (v := nI x1n) hx hb zz.1 hP 2 0 rfl rfl rfl d_T_writeBytes_17 ?_
      refine lv_icmp_ge (tgt := 35) hx hb d_T_writeBytes_18 (by decide) (fun hc => ?_) (fun hc => ?_)
      · have hG := zt hG hc
        exact k_T_writeBytes_35 X hA zz N sT x1 x1n _ _ _ _ _ _ _ hG kc kz hRc hRz adT adT_bytes adx1 _ _ hP hD hS _ (lv_sub hl [] rfl)
      · have hG := zf hG hc
        refine lv_aload_n hx hb d_T_writeBytes_21 rfl (lv_at hl 0 rfl) ?_
        refine lv_aload_n hx hb d_T_writeBytes_22 rfl (lv_at hl 1 rfl) ?_
        refine lv_iload hx hb d_T_writeBytes_23 (lv_at hl 3 rfl) ?_
        obtain ⟨hin, hG⟩ := zgd hG
        refine va_bald hx hb zz.1 hP 2 0 rfl rfl hin d_T_writeBytes_25 ?_
        obtain ⟨a_26, c_26, z_26, c9, z9, hx_26, hG, kc, kz⟩ := zcbde hG kc kz
        have hr_26 := zrunV (p := p) (e := e) (below := below) (meth := meth) (As := [.int (x1 v4.toNatClampNeg)]) (rest := []) (st0 := [.int (x1 v4.toNatClampNeg), .ref adT]) (cells := cells) (slots := slots) X zz hP hD hS hA [0, 1] (by decide) rfl (c_T_writeByte l dC dI cB cI cL H.size adT adT_bytes sT (x1 v4.toNatClampNeg) _ _ _ hx_26) zy_T_writeByte zv_T_writeByte (hts (.methodLink R_T 37 y_T_writeByte) zin_T_37) hl rfl rfl d_T_writeBytes_26 (lv_room (Nat.le_of_ble_eq_true rfl)) rfl rfl ⟨Nat.le_trans (Nat.le_of_ble_eq_true rfl) hRf, Nat.le_trans (Nat.le_of_ble_eq_true rfl) hRl⟩ ⟨zle kc hRc, zle kz hRz⟩ 0 1 rfl rfl
        refine zcallv (wr := ([(adx1, .inl (cB, x1n, .inl x1))])) hr_26 hP hD hS hA [0, 1] [2] rfl rfl (by decide) (by decide) (fun u_26 H locs hw_26 hP hD hS => ?_)
        obtain ⟨sT_26, qT_bytes_26⟩ := u_26
        subst hw_26
        have hP : va_P (dC, dI) zcl ([(adx1, .inl (cB, x1n, .inl x1))] ++ zwT adT qT_bytes_26 cB cI cL sT_26) H := hP
        have hD : va_D A ([(adx1, .inl (cB, x1n, .inl x1))] ++ zwT adT qT_bytes_26 cB cI cL sT_26) := hD
        have hG : g_T_writeBytes_c26 kr x1 x1n v3 v4 sT_26 = some (a, c9, z9) := hG
        unfold g_T_writeBytes_c26 at hG
        generalize cells + c_26 = cells at kc ⊢
        generalize slots + z_26 = slots at kz ⊢
        refine lv_iinc (v := v4 + 1) (lv' := [(4, .int (v4 + 1)), (0, .ref adT), (1, .ref adx1), (3, .int v3)]) hx hb d_T_writeBytes_29 hl (k := 3) rfl rfl (by decide) rfl (fun ls hl => ?_)
        refine lv_goto (tgt := 3) hx hb d_T_writeBytes_32 (by decide) ?_
        exact hrec sT_26 x1 x1n v3 (v4 + 1) _ _ _ _ _ hG kc kz adT qT_bytes_26 adx1 _ _ (hP.sub [1, 2, 0] rfl) (hD.sub [1, 2, 0] (by decide) rfl) hS _ (lv_sub hl [1, 2, 3, 0] rfl)
theorem k_T_writeBytes_3 {p : Program} {l : Launch} {e : Env} {R : Room} {s : State} {m : MethodId} {args : Array Value} {below : List Frame} {meth : Method} {c : Code} {dC : Nat → ClassId} {dI : Nat → Nat → Nat} {cB cI cL : ClassId} {A : Nat → Prop} (X : zx p s m args meth c R R_T b_T_writeBytes none 5 3 103) (hA : ∀ q, s.heap.size ≤ q → A q) (zz : zk dC dI cB cI cL A s)  (N : Nat) (tc tz : Nat) (hRc : tc ≤ R.cells) (hRz : tz ≤ R.slots) : ∀ (k : Nat) (sT : zT) (x1 : (Nat → Int32)) (x1n : Nat) (v3 : Int32) (v4 : Int32) (a : zT) (c9 z9 cells slots : Nat) (hG : g_T_writeBytes_3 N k sT x1 x1n v3 v4 = some (a, c9, z9)) (kc : cells + c9 = tc) (kz : slots + z9 = tz) (adT adT_bytes adx1 : Nat) (H : Heap) (locs : List Loc) (hP : va_P (dC, dI) zcl (zwT adT adT_bytes cB cI cL sT ++ [(adx1, .inl (cB, x1n, .inl x1))]) H) (hD : va_D A (zwT adT adT_bytes cB cI cL sT ++ [(adx1, .inl (cB, x1n, .inl x1))])) (hS : va_S A s.heap H locs) (ls : Array Slot) (hl : lv_has ls 5 [(0, .ref adT), (1, .ref adx1), (3, .int v3), (4, .int v4)]), W p l e R s m args below meth c H locs cells slots (MQ below (q_T_writeBytes dC dI cB cI cL A adT adx1 x1 x1n a) args s tc tz A) (F0 m 3 ls []) := by
  intro k
  induction k with
  | zero => intro sT x1 x1n v3 v4 a c9 z9 cells slots hG; exact absurd hG (by unfold g_T_writeBytes_3; simp)
  | succ k ih => intro sT x1 x1n v3 v4 a c9 z9 cells slots hG kc kz adT adT_bytes adx1 H locs hP hD hS ls hl; exact k_T_writeBytes_3_b tc tz _ ih X hA zz N sT x1 x1n v3 v4 a c9 z9 cells slots hG kc kz hRc hRz adT adT_bytes adx1 H locs hP hD hS ls hl
set_option maxRecDepth 100000 in
set_option maxHeartbeats 4000000 in
theorem k_T_writeBytes_0 {p : Program} {l : Launch} {e : Env} {R : Room} {s : State} {m : MethodId} {args : Array Value} {below : List Frame} {meth : Method} {c : Code} {dC : Nat → ClassId} {dI : Nat → Nat → Nat} {cB cI cL : ClassId} {A : Nat → Prop} (X : zx p s m args meth c R R_T b_T_writeBytes none 5 3 103) (hA : ∀ q, s.heap.size ≤ q → A q) (zz : zk dC dI cB cI cL A s)  (N : Nat) (sT : zT) (x1 : (Nat → Int32)) (x1n : Nat) (v2 : Int32) (v3 : Int32) (a : zT) (c9 z9 cells slots tc tz : Nat) (hG : g_T_writeBytes N sT x1 x1n v2 v3 = some (a, c9, z9)) (kc : cells + c9 = tc) (kz : slots + z9 = tz) (hRc : tc ≤ R.cells) (hRz : tz ≤ R.slots) (adT adT_bytes adx1 : Nat) (H : Heap) (locs : List Loc) (hP : va_P (dC, dI) zcl (zwT adT adT_bytes cB cI cL sT ++ [(adx1, .inl (cB, x1n, .inl x1))]) H) (hD : va_D A (zwT adT adT_bytes cB cI cL sT ++ [(adx1, .inl (cB, x1n, .inl x1))])) (hS : va_S A s.heap H locs) (ls : Array Slot) (hl : lv_has ls 5 [(0, .ref adT), (1, .ref adx1), (2, .int v2), (3, .int v3)]) : W p l e R s m args below meth c H locs cells slots (MQ below (q_T_writeBytes dC dI cB cI cL A adT adx1 x1 x1n a) args s tc tz A) (F0 m 0 ls []) := by
  obtain ⟨hx, hb, hr, hml, hown, hts, hlocks, hRf, hRl⟩ := id X
  unfold g_T_writeBytes at hG
  refine lv_iload_n hx hb d_T_writeBytes_0 rfl (lv_at hl 2 rfl) ?_
  refine lv_istore (lv' := [(4, .int v2), (0, .ref adT), (1, .ref adx1), (2, .int v2), (3, .int v3)]) hx hb d_T_writeBytes_1 hl (by decide) rfl (fun ls hl => ?_)
  exact k_T_writeBytes_3 X hA zz N _ _ hRc hRz N sT x1 x1n v3 v2 _ _ _ _ _ hG kc kz adT adT_bytes adx1 _ _ hP hD hS _ (lv_sub hl [1, 2, 4, 0] rfl)
set_option maxRecDepth 100000 in
set_option maxHeartbeats 4000000 in
theorem c_T_writeBytes (l : Launch) (dC : Nat → ClassId) (dI : Nat → Nat → Nat) (cB cI cL : ClassId) (sz : Nat) (adT adT_bytes adx1 : Nat) (N : Nat) (sT : zT) (x1 : (Nat → Int32)) (x1n : Nat) (v2 : Int32) (v3 : Int32) (a : zT) (c9 z9 : Nat) (hG : g_T_writeBytes N sT x1 x1n v2 v3 = some (a, c9, z9)) : Met l y_T_writeBytes (zw y_T_writeBytes b_T_writeBytes 5 none) ({ frames := 3, cells := c9, slots := z9, locals := 103 }) (va_Pc [.ref adT, .ref adx1, .int v2, .int v3] (zpre dC dI cB cI cL sz (zwT adT adT_bytes cB cI cL sT ++ [(adx1, .inl (cB, x1n, .inl x1))]))) (q_T_writeBytes dC dI cB cI cL (va_A (zwT adT adT_bytes cB cI cL sT ++ [(adx1, .inl (cB, x1n, .inl x1))]) sz) adT adx1 x1 x1n a) c9 z9 (va_A (zwT adT adT_bytes cB cI cL sT ++ [(adx1, .inl (cB, x1n, .inl x1))]) sz) := by
  refine Met.ofW (cc := b_T_writeBytes) (maxL := 5) (ret := none) (by decide) rfl ?_
  intro p e s m args below meth c s₁ B hml hv
  obtain ⟨rfl, hsz, hP, zz, hD0⟩ := hv
  subst hsz
  have X := zx_of (F := 3) (L := 103) B hml (Nat.le_refl _) (Nat.le_refl _)
  have hD := hD0.self (sz := s.heap.size)
  have hA : ∀ q : Nat, s.heap.size ≤ q → va_A (zwT adT adT_bytes cB cI cL sT ++ [(adx1, .inl (cB, x1n, .inl x1))]) s.heap.size q := fun q h => Or.inr h
  have hl := lv_entry ([.ref adT, .ref adx1, .int v2, .int v3]) (n := 5) (Nat.le_of_ble_eq_true rfl)
  rw [lg_entry_eq]
  generalize (lg_sl ([.ref adT, .ref adx1, .int v2, .int v3]) ++ List.replicate (5 - (lg_sl ([.ref adT, .ref adx1, .int v2, .int v3])).length) Slot.unset).toArray = ls at hl ⊢
  exact k_T_writeBytes_0 X hA zz N sT x1 x1n v2 v3 a c9 z9 0 0 c9 z9 hG (Nat.zero_add _) (Nat.zero_add _) (Nat.le_refl _) (Nat.le_refl _) adT adT_bytes adx1 _ _ hP hD va_S.rf ls hl
noncomputable def g_W_feed_11 (N : Nat) (sT : zT) : Option (((Int32 ⊕ Nat) × zT) × Nat × Nat) := some ((.inr 1, sT), 1, 6)
noncomputable def g_W_feed_c38 (sT_38 : zT) (r_38 : Int32) : Option (((Int32 ⊕ Nat) × zT) × Nat × Nat) := some ((.inl r_38, sT_38), 0, 0)
noncomputable def g_W_feed_c34 (sT_34 : zT) : Option (((Int32 ⊕ Nat) × zT) × Nat × Nat) := (g_W_keepWritten sT_34).bind (fun a => zca 1 6 (zmx (a.1) (fun r9 => g_W_feed_c38 a.2 r9) (fun k9 => some ((.inr k9, a.2), 0, 0))))
noncomputable def g_W_feed_c25 (N : Nat) (v1 : Int64) (v3 : Int32) (sT_25 : zT) : Option (((Int32 ⊕ Nat) × zT) × Nat × Nat) := zcbd (g_T_writeWord N sT_25 v1 v3) (fun a => g_W_feed_c34 a)
noncomputable def g_W_feed (N : Nat) (sT : zT) (v1 : Int64) (v3 : Int32) : Option (((Int32 ⊕ Nat) × zT) × Nat × Nat) := if v3 < (1 : Int32) then (g_W_feed_11 N sT) else (if v3 ≤ (8 : Int32) then ((g_T_startWriting sT).bind (fun a => g_W_feed_c25 N v1 v3 a)) else (g_W_feed_11 N sT))
def q_W_feed (dC : Nat → ClassId) (dI : Nat → Nat → Nat) (cB cI cL : ClassId) (A : Nat → Prop) (adW : Nat) (adT : Nat) (adR : Nat) (adG : Nat) (adF : Nat) (adH : Nat) (adD : Nat) (adP : Nat) (a : (Int32 ⊕ Nat) × zT) : Array Value → State → Outcome → State → Prop := zQx (α := Int32) (fun r => some (.int r)) (fun r (u : zT × Nat) => (r, u.1) = a) (dC, dI) (fun u => (zwW adW adT adR adG adF adH adD adP ++ zwT adT u.2 cB cI cL u.1)) A
set_option maxRecDepth 100000 in
set_option maxHeartbeats 4000000 in
theorem k_W_feed_11 {p : Program} {l : Launch} {e : Env} {R : Room} {s : State} {m : MethodId} {args : Array Value} {below : List Frame} {meth : Method} {c : Code} {dC : Nat → ClassId} {dI : Nat → Nat → Nat} {cB cI cL : ClassId} {A : Nat → Prop} {adR adG adF adH adD adP : Nat} (X : zx p s m args meth c R R_W b_W_feed (some .int) 4 7 127) (hA : ∀ q, s.heap.size ≤ q → A q) (zz : zk dC dI cB cI cL A s) (htr : l.stackTraces = false) (hnh : c.exceptionTable.isEmpty = true) (hAs : ∀ q, A q → ∀ cell, s.heap[q]? = some cell → cell.vm.isStatics = false)  (N : Nat) (sT : zT) (a : (Int32 ⊕ Nat) × zT) (c9 z9 cells slots tc tz : Nat) (hG : g_W_feed_11 N sT = some (a, c9, z9)) (kc : cells + c9 = tc) (kz : slots + z9 = tz) (hRc : tc ≤ R.cells) (hRz : tz ≤ R.slots) (adW adT adT_bytes : Nat) (H : Heap) (locs : List Loc) (hP : va_P (dC, dI) zcl (zwW adW adT adR adG adF adH adD adP ++ zwT adT adT_bytes cB cI cL sT) H) (hD : va_D A (zwW adW adT adR adG adF adH adD adP ++ zwT adT adT_bytes cB cI cL sT)) (hS : va_S A s.heap H locs) (ls : Array Slot) (hl : lv_has ls 4 []) : W p l e R s m args below meth c H locs cells slots (zMQ below (q_W_feed dC dI cB cI cL A adW adT adR adG adF adH adD adP a) args s tc tz A) (F0 m 11 ls []) := by
  obtain ⟨hx, hb, hr, hml, hown, hts, hlocks, hRf, hRl⟩ := id X
  unfold g_W_feed_11 at hG
  obtain ⟨hG, e91, e92⟩ := zc0 hG
  exact zthrow htr X zz hnh hAs hA hS 1 (text := "n is not 1 .. 8") zin_W_60 zini_1 (by decide +kernel) zat_W_64 zfit_1 hl d_W_feed_11 d_W_feed_14 d_W_feed_15 d_W_feed_17 d_W_feed_20 (Nat.le_trans (Nat.le_of_ble_eq_true rfl) hRf) (Nat.le_trans (Nat.le_of_ble_eq_true rfl) hRl) hRc hRz (by omega) (by omega) (fun t9 q9 hz9 ho9 ht9 => ⟨(sT, adT_bytes), va_P.kept hP (zold hP ho9), hD, zFr hS hz9 ho9, Or.inr ⟨1, q9, rfl, hG, ht9⟩⟩)
set_option maxRecDepth 100000 in
set_option maxHeartbeats 4000000 in
theorem k_W_feed_0 {p : Program} {l : Launch} {e : Env} {R : Room} {s : State} {m : MethodId} {args : Array Value} {below : List Frame} {meth : Method} {c : Code} {dC : Nat → ClassId} {dI : Nat → Nat → Nat} {cB cI cL : ClassId} {A : Nat → Prop} {adR adG adF adH adD adP : Nat} (X : zx p s m args meth c R R_W b_W_feed (some .int) 4 7 127) (hA : ∀ q, s.heap.size ≤ q → A q) (zz : zk dC dI cB cI cL A s) (htr : l.stackTraces = false) (hnh : c.exceptionTable.isEmpty = true) (hAs : ∀ q, A q → ∀ cell, s.heap[q]? = some cell → cell.vm.isStatics = false)  (N : Nat) (sT : zT) (v1 : Int64) (v3 : Int32) (a : (Int32 ⊕ Nat) × zT) (c9 z9 cells slots tc tz : Nat) (hG : g_W_feed N sT v1 v3 = some (a, c9, z9)) (kc : cells + c9 = tc) (kz : slots + z9 = tz) (hRc : tc ≤ R.cells) (hRz : tz ≤ R.slots) (adW adT adT_bytes : Nat) (H : Heap) (locs : List Loc) (hP : va_P (dC, dI) zcl (zwW adW adT adR adG adF adH adD adP ++ zwT adT adT_bytes cB cI cL sT) H) (hD : va_D A (zwW adW adT adR adG adF adH adD adP ++ zwT adT adT_bytes cB cI cL sT)) (hS : va_S A s.heap H locs) (ls : Array Slot) (hl : lv_has ls 4 [(0, .ref adW), (1, .long v1), (3, .int v3)]) : W p l e R s m args below meth c H locs cells slots (zMQ below (q_W_feed dC dI cB cI cL A adW adT adR adG adF adH adD adP a) args s tc tz A) (F0 m 0 ls []) := by
  obtain ⟨hx, hb, hr, hml, hown, hts, hlocks, hRf, hRl⟩ := id X
  unfold g_W_feed at hG
  refine lv_iload_n hx hb d_W_feed_0 rfl (lv_at hl 2 rfl) ?_
  refine lv_iconst (v := (1 : Int32)) hx hb d_W_feed_1 (by decide) ?_
  refine lv_icmp_lt (tgt := 11) hx hb d_W_feed_2 (by decide) (fun hc => ?_) (fun hc => ?_)
  · have hG := zt hG hc
    exact k_W_feed_11 X hA zz htr hnh hAs N sT _ _ _ _ _ _ _ hG kc kz hRc hRz adW adT adT_bytes _ _ hP hD hS _ (lv_sub hl [] rfl)
  · have hG := zf hG hc
    refine lv_iload_n hx hb d_W_feed_5 rfl (lv_at hl 2 rfl) ?_
    refine lv_bipush (v := (8 : Int32)) hx hb d_W_feed_6 (by decide) ?_
    refine lv_icmp_le (tgt := 21) hx hb d_W_feed_8 (by decide) (fun hc => ?_) (fun hc => ?_)
    · have hG := zt hG hc
      refine lv_aload_n hx hb d_W_feed_21 rfl (lv_at hl 0 rfl) ?_
      refine va_get (D := (dC, dI)) (ci := 0) (v := .ref adT) (C := R_W) (T := F_W) (N := 7) hx hb hts zi_W hown zz.1 hP 0 rfl rfl 0 (by decide) (hts (.fieldLink R_W 12 "WireCodec" "tape" "LWireCodec$Tape;") zin_W_12) (fun _ h9 => h9) rfl d_W_feed_22 ?_
      obtain ⟨a_25, hx_25, hG⟩ := zb hG
      have hr_25 := zrunV (p := p) (e := e) (below := below) (meth := meth) (As := []) (rest := []) (st0 := [.ref adT]) (cells := cells) (slots := slots) X zz hP hD hS hA [1, 2] (by decide) rfl (c_T_startWriting l dC dI cB cI cL H.size adT adT_bytes sT _ hx_25) zy_T_startWriting zv_T_startWriting (hts (.methodLink R_W 67 y_T_startWriting) zin_W_67) hl rfl rfl d_W_feed_25 (lv_room (Nat.le_of_ble_eq_true rfl)) rfl rfl ⟨Nat.le_trans (Nat.le_of_ble_eq_true rfl) hRf, Nat.le_trans (Nat.le_of_ble_eq_true rfl) hRl⟩ ⟨zle kc hRc, zle kz hRz⟩ 0 1 rfl rfl
      refine zcallv (wr := (zwW adW adT adR adG adF adH adD adP)) hr_25 hP hD hS hA [1, 2] [0] rfl rfl (by decide) (by decide) (fun u_25 H locs hw_25 hP hD hS => ?_)
      obtain ⟨sT_25, rfl⟩ : ∃ z, z = u_25 := ⟨_, rfl⟩
      subst hw_25
      have hP : va_P (dC, dI) zcl (zwW adW adT adR adG adF adH adD adP ++ zwT adT adT_bytes cB cI cL sT_25) H := hP
      have hD : va_D A (zwW adW adT adR adG adF adH adD adP ++ zwT adT adT_bytes cB cI cL sT_25) := hD
      have hG : g_W_feed_c25 N v1 v3 sT_25 = some (a, c9, z9) := hG
      unfold g_W_feed_c25 at hG
      refine lv_aload_n hx hb d_W_feed_28 rfl (lv_at hl 0 rfl) ?_
      refine va_get (D := (dC, dI)) (ci := 0) (v := .ref adT) (C := R_W) (T := F_W) (N := 7) hx hb hts zi_W hown zz.1 hP 0 rfl rfl 0 (by decide) (hts (.fieldLink R_W 12 "WireCodec" "tape" "LWireCodec$Tape;") zin_W_12) (fun _ h9 => h9) rfl d_W_feed_29 ?_
      refine lv_lload_n hx hb d_W_feed_32 rfl (lv_at hl 1 rfl) ?_
      refine lv_iload_n hx hb d_W_feed_33 rfl (lv_at hl 2 rfl) ?_
      obtain ⟨a_34, c_34, z_34, c9, z9, hx_34, hG, kc, kz⟩ := zcbde hG kc kz
      have hr_34 := zrunV (p := p) (e := e) (below := below) (meth := meth) (As := [.long v1, .int v3]) (rest := []) (st0 := [.int v3, .long v1, .ref adT]) (cells := cells) (slots := slots) X zz hP hD hS hA [1, 2] (by decide) rfl (c_T_writeWord l dC dI cB cI cL H.size adT adT_bytes N sT_25 v1 v3 _ _ _ hx_34) zy_T_writeWord zv_T_writeWord (hts (.methodLink R_W 70 y_T_writeWord) zin_W_70) hl rfl rfl d_W_feed_34 (lv_room (Nat.le_of_ble_eq_true rfl)) rfl rfl ⟨Nat.le_trans (Nat.le_of_ble_eq_true rfl) hRf, Nat.le_trans (Nat.le_of_ble_eq_true rfl) hRl⟩ ⟨zle kc hRc, zle kz hRz⟩ 0 1 rfl rfl
      refine zcallv (wr := (zwW adW adT adR adG adF adH adD adP)) hr_34 hP hD hS hA [1, 2] [0] rfl rfl (by decide) (by decide) (fun u_34 H locs hw_34 hP hD hS => ?_)
      obtain ⟨sT_34, qT_bytes_34⟩ := u_34
      subst hw_34
      have hP : va_P (dC, dI) zcl (zwW adW adT adR adG adF adH adD adP ++ zwT adT qT_bytes_34 cB cI cL sT_34) H := hP
      have hD : va_D A (zwW adW adT adR adG adF adH adD adP ++ zwT adT qT_bytes_34 cB cI cL sT_34) := hD
      have hG : g_W_feed_c34 sT_34 = some (a, c9, z9) := hG
      unfold g_W_feed_c34 at hG
      generalize cells + c_34 = cells at kc ⊢
      generalize slots + z_34 = slots at kz ⊢
      refine lv_aload_n hx hb d_W_feed_37 rfl (lv_at hl 0 rfl) ?_
      obtain ⟨a_38, hx_38, hG⟩ := zb hG
      obtain ⟨c9, z9, hG, kc, kz⟩ := zcae hG kc kz
      have hr_38 := zrunXV (p := p) (e := e) (below := below) (meth := meth) (As := []) (rest := []) (st0 := [.ref adW]) (cells := cells) (slots := slots) X zz hP hD hS hA [0, 1, 2] (by decide) rfl (c_W_keepWritten l dC dI cB cI cL H.size adW adT qT_bytes_34 adR adG adF adH adD adP sT_34 _ hx_38 htr) zy_W_keepWritten zv_W_keepWritten (hts (.methodLink R_W 74 y_W_keepWritten) zin_W_74) hl rfl rfl d_W_feed_38 (lv_room (Nat.le_of_ble_eq_true rfl)) rfl rfl ⟨Nat.le_trans (Nat.le_of_ble_eq_true rfl) hRf, Nat.le_trans (Nat.le_of_ble_eq_true rfl) hRl⟩ ⟨zle kc hRc, zle kz hRz⟩ 0 0 rfl rfl
      refine zcallX (wr := ([] : va_W)) hr_38 hP hD hS hA [0, 1, 2] [] rfl rfl (by decide) (by decide) hnh hlocks (Nat.le.intro kc) (Nat.le.intro kz) (fun k_38 u_38 t9 q9 hw_38 hP hD hF9 ht9 => ?_) (fun r_38 u_38 H locs hw_38 hP hD hS => ?_)
      · obtain ⟨sT_38, rfl⟩ : ∃ z, z = u_38 := ⟨_, rfl⟩
        subst hw_38
        have hP : va_P (dC, dI) zcl (zwW adW adT adR adG adF adH adD adP ++ zwT adT qT_bytes_34 cB cI cL sT_38) t9.heap := hP
        have hD : va_D A (zwW adW adT adR adG adF adH adD adP ++ zwT adT qT_bytes_34 cB cI cL sT_38) := hD
        obtain ⟨hG, e91, e92⟩ := zc0 (show some _ = some _ from hG)
        exact ⟨(sT_38, qT_bytes_34), hP, hD, hF9, Or.inr ⟨k_38, q9, rfl, hG, ht9⟩⟩
      obtain ⟨sT_38, rfl⟩ : ∃ z, z = u_38 := ⟨_, rfl⟩
      subst hw_38
      have hP : va_P (dC, dI) zcl (zwW adW adT adR adG adF adH adD adP ++ zwT adT qT_bytes_34 cB cI cL sT_38) H := hP
      have hD : va_D A (zwW adW adT adR adG adF adH adD adP ++ zwT adT qT_bytes_34 cB cI cL sT_38) := hD
      have hG : g_W_feed_c38 sT_38 r_38 = some (a, c9, z9) := hG
      unfold g_W_feed_c38 at hG
      generalize cells + 1 = cells at kc ⊢
      generalize slots + 6 = slots at kz ⊢
      obtain ⟨hG, e91, e92⟩ := zc0 hG
      refine W.widen (k := tc) (n := tz) (Nat.le.intro kc) (Nat.le.intro kz) ?_
      exact zxreti (u := (sT_38, qT_bytes_34)) (v := r_38) X hlocks (hG) hP hD hS d_W_feed_41
    · have hG := zf hG hc
      exact k_W_feed_11 X hA zz htr hnh hAs N sT _ _ _ _ _ _ _ hG kc kz hRc hRz adW adT adT_bytes _ _ hP hD hS _ (lv_sub hl [] rfl)
set_option maxRecDepth 100000 in
set_option maxHeartbeats 4000000 in
theorem c_W_feed (l : Launch) (dC : Nat → ClassId) (dI : Nat → Nat → Nat) (cB cI cL : ClassId) (sz : Nat) (adW adT adT_bytes adR adG adF adH adD adP : Nat) (N : Nat) (sT : zT) (v1 : Int64) (v3 : Int32) (a : (Int32 ⊕ Nat) × zT) (c9 z9 : Nat) (hG : g_W_feed N sT v1 v3 = some (a, c9, z9)) (htr : l.stackTraces = false) : zMet l y_W_feed (zw y_W_feed b_W_feed 4 (some .int)) ({ frames := 7, cells := c9, slots := z9, locals := 127 }) (va_Pc [.ref adW, .long v1, .int v3] (zpre dC dI cB cI cL sz (zwW adW adT adR adG adF adH adD adP ++ zwT adT adT_bytes cB cI cL sT))) (q_W_feed dC dI cB cI cL (va_A (zwW adW adT adR adG adF adH adD adP ++ zwT adT adT_bytes cB cI cL sT) sz) adW adT adR adG adF adH adD adP a) c9 z9 (va_A (zwW adW adT adR adG adF adH adD adP ++ zwT adT adT_bytes cB cI cL sT) sz) := by
  refine zMet.ofW (cc := b_W_feed) (maxL := 4) (ret := (some .int)) (by decide) rfl ?_
  intro p e s m args below meth c s₁ B hml hv
  obtain ⟨rfl, hsz, hP, zz, hD0⟩ := hv
  subst hsz
  have X := zx_of (F := 7) (L := 127) B hml (Nat.le_refl _) (Nat.le_refl _)
  have hD := hD0.self (sz := s.heap.size)
  have hA : ∀ q : Nat, s.heap.size ≤ q → va_A (zwW adW adT adR adG adF adH adD adP ++ zwT adT adT_bytes cB cI cL sT) s.heap.size q := fun q h => Or.inr h
  have hl := lv_entry ([.ref adW, .long v1, .int v3]) (n := 4) (Nat.le_of_ble_eq_true rfl)
  rw [lg_entry_eq]
  generalize (lg_sl ([.ref adW, .long v1, .int v3]) ++ List.replicate (4 - (lg_sl ([.ref adW, .long v1, .int v3])).length) Slot.unset).toArray = ls at hl ⊢
  have hnh := BodyLoose.noHandlers B (atoms_spec (ws := zw y_W_feed b_W_feed 4 (some .int)) B.pre _ List.mem_cons_self)
  have hAs := zstatics hP
  exact k_W_feed_0 X hA zz htr hnh hAs N sT v1 v3 a c9 z9 0 0 c9 z9 hG (Nat.zero_add _) (Nat.zero_add _) (Nat.le_refl _) (Nat.le_refl _) adW adT adT_bytes _ _ hP hD va_S.rf ls hl
noncomputable def g_W_number_30 (N : Nat) (sT : zT) : Option (((Int32 ⊕ Nat) × zT) × Nat × Nat) := some ((.inr 1, sT), 1, 6)
noncomputable def g_W_number_c57 (sT_57 : zT) (r_57 : Int32) : Option (((Int32 ⊕ Nat) × zT) × Nat × Nat) := some ((.inl r_57, sT_57), 0, 0)
noncomputable def g_W_number_c53 (sT_53 : zT) : Option (((Int32 ⊕ Nat) × zT) × Nat × Nat) := (g_W_keepWritten sT_53).bind (fun a => zca 1 6 (zmx (a.1) (fun r9 => g_W_number_c57 a.2 r9) (fun k9 => some ((.inr k9, a.2), 0, 0))))
noncomputable def g_W_number_c44 (N : Nat) (v1 : Int64) (v3 : Int32) (sT_44 : zT) : Option (((Int32 ⊕ Nat) × zT) × Nat × Nat) := zcbd (g_T_writeNumber N sT_44 v1 v3) (fun a => g_W_number_c53 a)
noncomputable def g_W_number_40 (N : Nat) (sT : zT) (v1 : Int64) (v3 : Int32) : Option (((Int32 ⊕ Nat) × zT) × Nat × Nat) := (g_T_startWriting sT).bind (fun a => g_W_number_c44 N v1 v3 a)
noncomputable def g_W_number_c24 (N : Nat) (sT : zT) (v1 : Int64) (v3 : Int32) (r_24 : Int32) : Option (((Int32 ⊕ Nat) × zT) × Nat × Nat) := if r_24 ≤ v3 then (g_W_number_40 N sT v1 v3) else (g_W_number_30 N sT)
noncomputable def g_W_number_18 (N : Nat) (sT : zT) (v1 : Int64) (v3 : Int32) : Option (((Int32 ⊕ Nat) × zT) × Nat × Nat) := if v3 = (0 : Int32) then (g_W_number_40 N sT v1 v3) else ((g_W_fewestBytes v1).bind (fun a => g_W_number_c24 N sT v1 v3 a))
noncomputable def g_W_number_c12 (N : Nat) (sT : zT) (v1 : Int64) (v3 : Int32) (r_12 : Int32) : Option (((Int32 ⊕ Nat) × zT) × Nat × Nat) := if r_12 = (0 : Int32) then (g_W_number_30 N sT) else (g_W_number_18 N sT v1 v3)
noncomputable def g_W_number_c1 (N : Nat) (sT : zT) (v1 : Int64) (v3 : Int32) (r_1 : Int32) : Option (((Int32 ⊕ Nat) × zT) × Nat × Nat) := if r_1 = (0 : Int32) then (g_W_number_30 N sT) else (if v3 = (0 : Int32) then (g_W_number_18 N sT v1 v3) else ((g_W_isNumberSize v3).bind (fun a => g_W_number_c12 N sT v1 v3 a)))
noncomputable def g_W_number (N : Nat) (sT : zT) (v1 : Int64) (v3 : Int32) : Option (((Int32 ⊕ Nat) × zT) × Nat × Nat) := (g_W_isNumber v1).bind (fun a => g_W_number_c1 N sT v1 v3 a)
def q_W_number (dC : Nat → ClassId) (dI : Nat → Nat → Nat) (cB cI cL : ClassId) (A : Nat → Prop) (adW : Nat) (adT : Nat) (adR : Nat) (adG : Nat) (adF : Nat) (adH : Nat) (adD : Nat) (adP : Nat) (a : (Int32 ⊕ Nat) × zT) : Array Value → State → Outcome → State → Prop := zQx (α := Int32) (fun r => some (.int r)) (fun r (u : zT × Nat) => (r, u.1) = a) (dC, dI) (fun u => (zwW adW adT adR adG adF adH adD adP ++ zwT adT u.2 cB cI cL u.1)) A
set_option maxRecDepth 100000 in
set_option maxHeartbeats 4000000 in
theorem k_W_number_30 {p : Program} {l : Launch} {e : Env} {R : Room} {s : State} {m : MethodId} {args : Array Value} {below : List Frame} {meth : Method} {c : Code} {dC : Nat → ClassId} {dI : Nat → Nat → Nat} {cB cI cL : ClassId} {A : Nat → Prop} {adR adG adF adH adD adP : Nat} (X : zx p s m args meth c R R_W b_W_number (some .int) 4 7 153) (hA : ∀ q, s.heap.size ≤ q → A q) (zz : zk dC dI cB cI cL A s) (htr : l.stackTraces = false) (hnh : c.exceptionTable.isEmpty = true) (hAs : ∀ q, A q → ∀ cell, s.heap[q]? = some cell → cell.vm.isStatics = false)  (N : Nat) (sT : zT) (a : (Int32 ⊕ Nat) × zT) (c9 z9 cells slots tc tz : Nat) (hG : g_W_number_30 N sT = some (a, c9, z9)) (kc : cells + c9 = tc) (kz : slots + z9 = tz) (hRc : tc ≤ R.cells) (hRz : tz ≤ R.slots) (adW adT adT_bytes : Nat) (H : Heap) (locs : List Loc) (hP : va_P (dC, dI) zcl (zwW adW adT adR adG adF adH adD adP ++ zwT adT adT_bytes cB cI cL sT) H) (hD : va_D A (zwW adW adT adR adG adF adH adD adP ++ zwT adT adT_bytes cB cI cL sT)) (hS : va_S A s.heap H locs) (ls : Array Slot) (hl : lv_has ls 4 []) : W p l e R s m args below meth c H locs cells slots (zMQ below (q_W_number dC dI cB cI cL A adW adT adR adG adF adH adD adP a) args s tc tz A) (F0 m 30 ls []) := by
  obtain ⟨hx, hb, hr, hml, hown, hts, hlocks, hRf, hRl⟩ := id X
  unfold g_W_number_30 at hG
  obtain ⟨hG, e91, e92⟩ := zc0 hG
  exact zthrow htr X zz hnh hAs hA hS 1 (text := "no number of so many bytes") zin_W_60 zini_1 (by decide +kernel) zat_W_64 zfit_1 hl d_W_number_30 d_W_number_33 d_W_number_34 d_W_number_36 d_W_number_39 (Nat.le_trans (Nat.le_of_ble_eq_true rfl) hRf) (Nat.le_trans (Nat.le_of_ble_eq_true rfl) hRl) hRc hRz (by omega) (by omega) (fun t9 q9 hz9 ho9 ht9 => ⟨(sT, adT_bytes), va_P.kept hP (zold hP ho9), hD, zFr hS hz9 ho9, Or.inr ⟨1, q9, rfl, hG, ht9⟩⟩)
set_option maxRecDepth 100000 in
set_option maxHeartbeats 4000000 in
theorem k_W_number_40 {p : Program} {l : Launch} {e : Env} {R : Room} {s : State} {m : MethodId} {args : Array Value} {below : List Frame} {meth : Method} {c : Code} {dC : Nat → ClassId} {dI : Nat → Nat → Nat} {cB cI cL : ClassId} {A : Nat → Prop} {adR adG adF adH adD adP : Nat} (X : zx p s m args meth c R R_W b_W_number (some .int) 4 7 153) (hA : ∀ q, s.heap.size ≤ q → A q) (zz : zk dC dI cB cI cL A s) (htr : l.stackTraces = false) (hnh : c.exceptionTable.isEmpty = true) (hAs : ∀ q, A q → ∀ cell, s.heap[q]? = some cell → cell.vm.isStatics = false)  (N : Nat) (sT : zT) (v1 : Int64) (v3 : Int32) (a : (Int32 ⊕ Nat) × zT) (c9 z9 cells slots tc tz : Nat) (hG : g_W_number_40 N sT v1 v3 = some (a, c9, z9)) (kc : cells + c9 = tc) (kz : slots + z9 = tz) (hRc : tc ≤ R.cells) (hRz : tz ≤ R.slots) (adW adT adT_bytes : Nat) (H : Heap) (locs : List Loc) (hP : va_P (dC, dI) zcl (zwW adW adT adR adG adF adH adD adP ++ zwT adT adT_bytes cB cI cL sT) H) (hD : va_D A (zwW adW adT adR adG adF adH adD adP ++ zwT adT adT_bytes cB cI cL sT)) (hS : va_S A s.heap H locs) (ls : Array Slot) (hl : lv_has ls 4 [(0, .ref adW), (1, .long v1), (3, .int v3)]) : W p l e R s m args below meth c H locs cells slots (zMQ below (q_W_number dC dI cB cI cL A adW adT adR adG adF adH adD adP a) args s tc tz A) (F0 m 40 ls []) := by
  obtain ⟨hx, hb, hr, hml, hown, hts, hlocks, hRf, hRl⟩ := id X
  unfold g_W_number_40 at hG
  refine lv_aload_n hx hb d_W_number_40 rfl (lv_at hl 0 rfl) ?_
  refine va_get (D := (dC, dI)) (ci := 0) (v := .ref adT) (C := R_W) (T := F_W) (N := 7) hx hb hts zi_W hown zz.1 hP 0 rfl rfl 0 (by decide) (hts (.fieldLink R_W 12 "WireCodec" "tape" "LWireCodec$Tape;") zin_W_12) (fun _ h9 => h9) rfl d_W_number_41 ?_
  obtain ⟨a_44, hx_44, hG⟩ := zb hG
  have hr_44 := zrunV (p := p) (e := e) (below := below) (meth := meth) (As := []) (rest := []) (st0 := [.ref adT]) (cells := cells) (slots := slots) X zz hP hD hS hA [1, 2] (by decide) rfl (c_T_startWriting l dC dI cB cI cL H.size adT adT_bytes sT _ hx_44) zy_T_startWriting zv_T_startWriting (hts (.methodLink R_W 67 y_T_startWriting) zin_W_67) hl rfl rfl d_W_number_44 (lv_room (Nat.le_of_ble_eq_true rfl)) rfl rfl ⟨Nat.le_trans (Nat.le_of_ble_eq_true rfl) hRf, Nat.le_trans (Nat.le_of_ble_eq_true rfl) hRl⟩ ⟨zle kc hRc, zle kz hRz⟩ 0 1 rfl rfl
  refine zcallv (wr := (zwW adW adT adR adG adF adH adD adP)) hr_44 hP hD hS hA [1, 2] [0] rfl rfl (by decide) (by decide) (fun u_44 H locs hw_44 hP hD hS => ?_)
  obtain ⟨sT_44, rfl⟩ : ∃ z, z = u_44 := ⟨_, rfl⟩
  subst hw_44
  have hP : va_P (dC, dI) zcl (zwW adW adT adR adG adF adH adD adP ++ zwT adT adT_bytes cB cI cL sT_44) H := hP
  have hD : va_D A (zwW adW adT adR adG adF adH adD adP ++ zwT adT adT_bytes cB cI cL sT_44) := hD
  have hG : g_W_number_c44 N v1 v3 sT_44 = some (a, c9, z9) := hG
  unfold g_W_number_c44 at hG
  refine lv_aload_n hx hb d_W_number_47 rfl (lv_at hl 0 rfl) ?_
  refine va_get (D := (dC, dI)) (ci := 0) (v := .ref adT) (C := R_W) (T := F_W) (N := 7) hx hb hts zi_W hown zz.1 hP 0 rfl rfl 0 (by decide) (hts (.fieldLink R_W 12 "WireCodec" "tape" "LWireCodec$Tape;") zin_W_12) (fun _ h9 => h9) rfl d_W_number_48 ?_
  refine lv_lload_n hx hb d_W_number_51 rfl (lv_at hl 1 rfl) ?_
  refine lv_iload_n hx hb d_W_number_52 rfl (lv_at hl 2 rfl) ?_
  obtain ⟨a_53, c_53, z_53, c9, z9, hx_53, hG, kc, kz⟩ := zcbde hG kc kz
  have hr_53 := zrunV (p := p) (e := e) (below := below) (meth := meth) (As := [.long v1, .int v3]) (rest := []) (st0 := [.int v3, .long v1, .ref adT]) (cells := cells) (slots := slots) X zz hP hD hS hA [1, 2] (by decide) rfl (c_T_writeNumber l dC dI cB cI cL H.size adT adT_bytes N sT_44 v1 v3 _ _ _ hx_53) zy_T_writeNumber zv_T_writeNumber (hts (.methodLink R_W 92 y_T_writeNumber) zin_W_92) hl rfl rfl d_W_number_53 (lv_room (Nat.le_of_ble_eq_true rfl)) rfl rfl ⟨Nat.le_trans (Nat.le_of_ble_eq_true rfl) hRf, Nat.le_trans (Nat.le_of_ble_eq_true rfl) hRl⟩ ⟨zle kc hRc, zle kz hRz⟩ 0 1 rfl rfl
  refine zcallv (wr := (zwW adW adT adR adG adF adH adD adP)) hr_53 hP hD hS hA [1, 2] [0] rfl rfl (by decide) (by decide) (fun u_53 H locs hw_53 hP hD hS => ?_)
  obtain ⟨sT_53, qT_bytes_53⟩ := u_53
  subst hw_53
  have hP : va_P (dC, dI) zcl (zwW adW adT adR adG adF adH adD adP ++ zwT adT qT_bytes_53 cB cI cL sT_53) H := hP
  have hD : va_D A (zwW adW adT adR adG adF adH adD adP ++ zwT adT qT_bytes_53 cB cI cL sT_53) := hD
  have hG : g_W_number_c53 sT_53 = some (a, c9, z9) := hG
  unfold g_W_number_c53 at hG
  generalize cells + c_53 = cells at kc ⊢
  generalize slots + z_53 = slots at kz ⊢
  refine lv_aload_n hx hb d_W_number_56 rfl (lv_at hl 0 rfl) ?_
  obtain ⟨a_57, hx_57, hG⟩ := zb hG
  obtain ⟨c9, z9, hG, kc, kz⟩ := zcae hG kc kz
  have hr_57 := zrunXV (p := p) (e := e) (below := below) (meth := meth) (As := []) (rest := []) (st0 := [.ref adW]) (cells := cells) (slots := slots) X zz hP hD hS hA [0, 1, 2] (by decide) rfl (c_W_keepWritten l dC dI cB cI cL H.size adW adT qT_bytes_53 adR adG adF adH adD adP sT_53 _ hx_57 htr) zy_W_keepWritten zv_W_keepWritten (hts (.methodLink R_W 74 y_W_keepWritten) zin_W_74) hl rfl rfl d_W_number_57 (lv_room (Nat.le_of_ble_eq_true rfl)) rfl rfl ⟨Nat.le_trans (Nat.le_of_ble_eq_true rfl) hRf, Nat.le_trans (Nat.le_of_ble_eq_true rfl) hRl⟩ ⟨zle kc hRc, zle kz hRz⟩ 0 0 rfl rfl
  refine zcallX (wr := ([] : va_W)) hr_57 hP hD hS hA [0, 1, 2] [] rfl rfl (by decide) (by decide) hnh hlocks (Nat.le.intro kc) (Nat.le.intro kz) (fun k_57 u_57 t9 q9 hw_57 hP hD hF9 ht9 => ?_) (fun r_57 u_57 H locs hw_57 hP hD hS => ?_)
  · obtain ⟨sT_57, rfl⟩ : ∃ z, z = u_57 := ⟨_, rfl⟩
    subst hw_57
    have hP : va_P (dC, dI) zcl (zwW adW adT adR adG adF adH adD adP ++ zwT adT qT_bytes_53 cB cI cL sT_57) t9.heap := hP
    have hD : va_D A (zwW adW adT adR adG adF adH adD adP ++ zwT adT qT_bytes_53 cB cI cL sT_57) := hD
    obtain ⟨hG, e91, e92⟩ := zc0 (show some _ = some _ from hG)
    exact ⟨(sT_57, qT_bytes_53), hP, hD, hF9, Or.inr ⟨k_57, q9, rfl, hG, ht9⟩⟩
  obtain ⟨sT_57, rfl⟩ : ∃ z, z = u_57 := ⟨_, rfl⟩
  subst hw_57
  have hP : va_P (dC, dI) zcl (zwW adW adT adR adG adF adH adD adP ++ zwT adT qT_bytes_53 cB cI cL sT_57) H := hP
  have hD : va_D A (zwW adW adT adR adG adF adH adD adP ++ zwT adT qT_bytes_53 cB cI cL sT_57) := hD
  have hG : g_W_number_c57 sT_57 r_57 = some (a, c9, z9) := hG
  unfold g_W_number_c57 at hG
  generalize cells + 1 = cells at kc ⊢
  generalize slots + 6 = slots at kz ⊢
  obtain ⟨hG, e91, e92⟩ := zc0 hG
  refine W.widen (k := tc) (n := tz) (Nat.le.intro kc) (Nat.le.intro kz) ?_
  exact zxreti (u := (sT_57, qT_bytes_53)) (v := r_57) X hlocks (hG) hP hD hS d_W_number_60
set_option maxRecDepth 100000 in
set_option maxHeartbeats 4000000 in
theorem k_W_number_18 {p : Program} {l : Launch} {e : Env} {R : Room} {s : State} {m : MethodId} {args : Array Value} {below : List Frame} {meth : Method} {c : Code} {dC : Nat → ClassId} {dI : Nat → Nat → Nat} {cB cI cL : ClassId} {A : Nat → Prop} {adR adG adF adH adD adP : Nat} (X : zx p s m args meth c R R_W b_W_number (some .int) 4 7 153) (hA : ∀ q, s.heap.size ≤ q → A q) (zz : zk dC dI cB cI cL A s) (htr : l.stackTraces = false) (hnh : c.exceptionTable.isEmpty = true) (hAs : ∀ q, A q → ∀ cell, s.heap[q]? = some cell → cell.vm.isStatics = false)  (N : Nat) (sT : zT) (v1 : Int64) (v3 : Int32) (a : (Int32 ⊕ Nat) × zT) (c9 z9 cells slots tc tz : Nat) (hG : g_W_number_18 N sT v1 v3 = some (a, c9, z9)) (kc : cells + c9 = tc) (kz : slots + z9 = tz) (hRc : tc ≤ R.cells) (hRz : tz ≤ R.slots) (adW adT adT_bytes : Nat) (H : Heap) (locs : List Loc) (hP : va_P (dC, dI) zcl (zwW adW adT adR adG adF adH adD adP ++ zwT adT adT_bytes cB cI cL sT) H) (hD : va_D A (zwW adW adT adR adG adF adH adD adP ++ zwT adT adT_bytes cB cI cL sT)) (hS : va_S A s.heap H locs) (ls : Array Slot) (hl : lv_has ls 4 [(0, .ref adW), (1, .long v1), (3, .int v3)]) : W p l e R s m args below meth c H locs cells slots (zMQ below (q_W_number dC dI cB cI cL A adW adT adR adG adF adH adD adP a) args s tc tz A) (F0 m 18 ls []) := by
  obtain ⟨hx, hb, hr, hml, hown, hts, hlocks, hRf, hRl⟩ := id X
  unfold g_W_number_18 at hG
  refine lv_iload_n hx hb d_W_number_18 rfl (lv_at hl 2 rfl) ?_
  refine lv_if_eq (tgt := 40) hx hb d_W_number_19 (by decide) (fun hc => ?_) (fun hc => ?_)
  · have hG := zt hG hc
    exact k_W_number_40 X hA zz htr hnh hAs N sT v1 v3 _ _ _ _ _ _ _ hG kc kz hRc hRz adW adT adT_bytes _ _ hP hD hS _ (lv_sub hl [0, 1, 2] rfl)
  · have hG := zf hG hc
    refine lv_iload_n hx hb d_W_number_22 rfl (lv_at hl 2 rfl) ?_
    refine lv_lload_n hx hb d_W_number_23 rfl (lv_at hl 1 rfl) ?_
    obtain ⟨a_24, hx_24, hG⟩ := zb hG
    have hr_24 := zrunS (p := p) (e := e) (below := below) (meth := meth) (As := [.long v1]) (rest := [.int v3]) (st0 := [.long v1, .int v3]) (cells := cells) (slots := slots) X zz hP hD hS hA [] (by decide) rfl (c_W_fewestBytes l dC dI cB cI cL H.size v1 _ hx_24) zy_W_fewestBytes zv_W_fewestBytes (hts (.methodLink R_W 86 y_W_fewestBytes) zin_W_86) hl rfl rfl d_W_number_24 (lv_room (Nat.le_of_ble_eq_true rfl)) rfl rfl ⟨Nat.le_trans (Nat.le_of_ble_eq_true rfl) hRf, Nat.le_trans (Nat.le_of_ble_eq_true rfl) hRl⟩ ⟨zle kc hRc, zle kz hRz⟩
    refine zcalli (wr := (zwW adW adT adR adG adF adH adD adP ++ zwT adT adT_bytes cB cI cL sT)) hr_24 hP hD hS hA [] [0, 1, 2] rfl rfl (by decide) (by decide) (fun r_24 u_24 H locs hw_24 hP hD hS => ?_)
    subst hw_24
    have hP : va_P (dC, dI) zcl (zwW adW adT adR adG adF adH adD adP ++ zwT adT adT_bytes cB cI cL sT) H := hP
    have hD : va_D A (zwW adW adT adR adG adF adH adD adP ++ zwT adT adT_bytes cB cI cL sT) := hD
    have hG : g_W_number_c24 N sT v1 v3 r_24 = some (a, c9, z9) := hG
    unfold g_W_number_c24 at hG
    refine lv_icmp_ge (tgt := 40) hx hb d_W_number_27 (by decide) (fun hc => ?_) (fun hc => ?_)
    · have hG := zt hG hc
      exact k_W_number_40 X hA zz htr hnh hAs N sT v1 v3 _ _ _ _ _ _ _ hG kc kz hRc hRz adW adT adT_bytes _ _ hP hD hS _ (lv_sub hl [0, 1, 2] rfl)
    · have hG := zf hG hc
      exact k_W_number_30 X hA zz htr hnh hAs N sT _ _ _ _ _ _ _ hG kc kz hRc hRz adW adT adT_bytes _ _ hP hD hS _ (lv_sub hl [] rfl)
set_option maxRecDepth 100000 in
set_option maxHeartbeats 4000000 in
theorem k_W_number_0 {p : Program} {l : Launch} {e : Env} {R : Room} {s : State} {m : MethodId} {args : Array Value} {below : List Frame} {meth : Method} {c : Code} {dC : Nat → ClassId} {dI : Nat → Nat → Nat} {cB cI cL : ClassId} {A : Nat → Prop} {adR adG adF adH adD adP : Nat} (X : zx p s m args meth c R R_W b_W_number (some .int) 4 7 153) (hA : ∀ q, s.heap.size ≤ q → A q) (zz : zk dC dI cB cI cL A s) (htr : l.stackTraces = false) (hnh : c.exceptionTable.isEmpty = true) (hAs : ∀ q, A q → ∀ cell, s.heap[q]? = some cell → cell.vm.isStatics = false)  (N : Nat) (sT : zT) (v1 : Int64) (v3 : Int32) (a : (Int32 ⊕ Nat) × zT) (c9 z9 cells slots tc tz : Nat) (hG : g_W_number N sT v1 v3 = some (a, c9, z9)) (kc : cells + c9 = tc) (kz : slots + z9 = tz) (hRc : tc ≤ R.cells) (hRz : tz ≤ R.slots) (adW adT adT_bytes : Nat) (H : Heap) (locs : List Loc) (hP : va_P (dC, dI) zcl (zwW adW adT adR adG adF adH adD adP ++ zwT adT adT_bytes cB cI cL sT) H) (hD : va_D A (zwW adW adT adR adG adF adH adD adP ++ zwT adT adT_bytes cB cI cL sT)) (hS : va_S A s.heap H locs) (ls : Array Slot) (hl : lv_has ls 4 [(0, .ref adW), (1, .long v1), (3, .int v3)]) : W p l e R s m args below meth c H locs cells slots (zMQ below (q_W_number dC dI cB cI cL A adW adT adR adG adF adH adD adP a) args s tc tz A) (F0 m 0 ls []) := by
  obtain ⟨hx, hb, hr, hml, hown, hts, hlocks, hRf, hRl⟩ := id X
  unfold g_W_number at hG
  refine lv_lload_n hx hb d_W_number_0 rfl (lv_at hl 1 rfl) ?_
  obtain ⟨a_1, hx_1, hG⟩ := zb hG
  have hr_1 := zrunS (p := p) (e := e) (below := below) (meth := meth) (As := [.long v1]) (rest := []) (st0 := [.long v1]) (cells := cells) (slots := slots) X zz hP hD hS hA [] (by decide) rfl (c_W_isNumber l dC dI cB cI cL H.size v1 _ hx_1) zy_W_isNumber zv_W_isNumber (hts (.methodLink R_W 78 y_W_isNumber) zin_W_78) hl rfl rfl d_W_number_1 (lv_room (Nat.le_of_ble_eq_true rfl)) rfl rfl ⟨Nat.le_trans (Nat.le_of_ble_eq_true rfl) hRf, Nat.le_trans (Nat.le_of_ble_eq_true rfl) hRl⟩ ⟨zle kc hRc, zle kz hRz⟩
  refine zcalli (wr := (zwW adW adT adR adG adF adH adD adP ++ zwT adT adT_bytes cB cI cL sT)) hr_1 hP hD hS hA [] [0, 1, 2] rfl rfl (by decide) (by decide) (fun r_1 u_1 H locs hw_1 hP hD hS => ?_)
  subst hw_1
  have hP : va_P (dC, dI) zcl (zwW adW adT adR adG adF adH adD adP ++ zwT adT adT_bytes cB cI cL sT) H := hP
  have hD : va_D A (zwW adW adT adR adG adF adH adD adP ++ zwT adT adT_bytes cB cI cL sT) := hD
  have hG : g_W_number_c1 N sT v1 v3 r_1 = some (a, c9, z9) := hG
  unfold g_W_number_c1 at hG
  refine lv_if_eq (tgt := 30) hx hb d_W_number_4 (by decide) (fun hc => ?_) (fun hc => ?_)
  · have hG := zt hG hc
    exact k_W_number_30 X hA zz htr hnh hAs N sT _ _ _ _ _ _ _ hG kc kz hRc hRz adW adT adT_bytes _ _ hP hD hS _ (lv_sub hl [] rfl)
  · have hG := zf hG hc
    refine lv_iload_n hx hb d_W_number_7 rfl (lv_at hl 2 rfl) ?_
    refine lv_if_eq (tgt := 18) hx hb d_W_number_8 (by decide) (fun hc => ?_) (fun hc => ?_)
    · have hG := zt hG hc
      exact k_W_number_18 X hA zz htr hnh hAs N sT v1 v3 _ _ _ _ _ _ _ hG kc kz hRc hRz adW adT adT_bytes _ _ hP hD hS _ (lv_sub hl [0, 1, 2] rfl)
    · have hG := zf hG hc
      refine lv_iload_n hx hb d_W_number_11 rfl (lv_at hl 2 rfl) ?_
      obtain ⟨a_12, hx_12, hG⟩ := zb hG
      have hr_12 := zrunS (p := p) (e := e) (below := below) (meth := meth) (As := [.int v3]) (rest := []) (st0 := [.int v3]) (cells := cells) (slots := slots) X zz hP hD hS hA [] (by decide) rfl (c_W_isNumberSize l dC dI cB cI cL H.size v3 _ hx_12) zy_W_isNumberSize zv_W_isNumberSize (hts (.methodLink R_W 82 y_W_isNumberSize) zin_W_82) hl rfl rfl d_W_number_12 (lv_room (Nat.le_of_ble_eq_true rfl)) rfl rfl ⟨Nat.le_trans (Nat.le_of_ble_eq_true rfl) hRf, Nat.le_trans (Nat.le_of_ble_eq_true rfl) hRl⟩ ⟨zle kc hRc, zle kz hRz⟩
      refine zcalli (wr := (zwW adW adT adR adG adF adH adD adP ++ zwT adT adT_bytes cB cI cL sT)) hr_12 hP hD hS hA [] [0, 1, 2] rfl rfl (by decide) (by decide) (fun r_12 u_12 H locs hw_12 hP hD hS => ?_)
      subst hw_12
      have hP : va_P (dC, dI) zcl (zwW adW adT adR adG adF adH adD adP ++ zwT adT adT_bytes cB cI cL sT) H := hP
      have hD : va_D A (zwW adW adT adR adG adF adH adD adP ++ zwT adT adT_bytes cB cI cL sT) := hD
      have hG : g_W_number_c12 N sT v1 v3 r_12 = some (a, c9, z9) := hG
      unfold g_W_number_c12 at hG
      refine lv_if_eq (tgt := 30) hx hb d_W_number_15 (by decide) (fun hc => ?_) (fun hc => ?_)
      · have hG := zt hG hc
        exact k_W_number_30 X hA zz htr hnh hAs N sT _ _ _ _ _ _ _ hG kc kz hRc hRz adW adT adT_bytes _ _ hP hD hS _ (lv_sub hl [] rfl)
      · have hG := zf hG hc
        exact k_W_number_18 X hA zz htr hnh hAs N sT v1 v3 _ _ _ _ _ _ _ hG kc kz hRc hRz adW adT adT_bytes _ _ hP hD hS _ (lv_sub hl [0, 1, 2] rfl)
set_option maxRecDepth 100000 in
set_option maxHeartbeats 4000000 in
theorem c_W_number (l : Launch) (dC : Nat → ClassId) (dI : Nat → Nat → Nat) (cB cI cL : ClassId) (sz : Nat) (adW adT adT_bytes adR adG adF adH adD adP : Nat) (N : Nat) (sT : zT) (v1 : Int64) (v3 : Int32) (a : (Int32 ⊕ Nat) × zT) (c9 z9 : Nat) (hG : g_W_number N sT v1 v3 = some (a, c9, z9)) (htr : l.stackTraces = false) : zMet l y_W_number (zw y_W_number b_W_number 4 (some .int)) ({ frames := 7, cells := c9, slots := z9, locals := 153 }) (va_Pc [.ref adW, .long v1, .int v3] (zpre dC dI cB cI cL sz (zwW adW adT adR adG adF adH adD adP ++ zwT adT adT_bytes cB cI cL sT))) (q_W_number dC dI cB cI cL (va_A (zwW adW adT adR adG adF adH adD adP ++ zwT adT adT_bytes cB cI cL sT) sz) adW adT adR adG adF adH adD adP a) c9 z9 (va_A (zwW adW adT adR adG adF adH adD adP ++ zwT adT adT_bytes cB cI cL sT) sz) := by
  refine zMet.ofW (cc := b_W_number) (maxL := 4) (ret := (some .int)) (by decide) rfl ?_
  intro p e s m args below meth c s₁ B hml hv
  obtain ⟨rfl, hsz, hP, zz, hD0⟩ := hv
  subst hsz
  have X := zx_of (F := 7) (L := 153) B hml (Nat.le_refl _) (Nat.le_refl _)
  have hD := hD0.self (sz := s.heap.size)
  have hA : ∀ q : Nat, s.heap.size ≤ q → va_A (zwW adW adT adR adG adF adH adD adP ++ zwT adT adT_bytes cB cI cL sT) s.heap.size q := fun q h => Or.inr h
  have hl := lv_entry ([.ref adW, .long v1, .int v3]) (n := 4) (Nat.le_of_ble_eq_true rfl)
  rw [lg_entry_eq]
  generalize (lg_sl ([.ref adW, .long v1, .int v3]) ++ List.replicate (4 - (lg_sl ([.ref adW, .long v1, .int v3])).length) Slot.unset).toArray = ls at hl ⊢
  have hnh := BodyLoose.noHandlers B (atoms_spec (ws := zw y_W_number b_W_number 4 (some .int)) B.pre _ List.mem_cons_self)
  have hAs := zstatics hP
  exact k_W_number_0 X hA zz htr hnh hAs N sT v1 v3 a c9 z9 0 0 c9 z9 hG (Nat.zero_add _) (Nat.zero_add _) (Nat.le_refl _) (Nat.le_refl _) adW adT adT_bytes _ _ hP hD va_S.rf ls hl
noncomputable def g_W_draft_c4 (sD_4 : zD) : Option (zD) := some (sD_4)
noncomputable def g_W_draft (N : Nat) (sD : zD) : Option (zD) := (g_D_empty N sD).bind (fun a => g_W_draft_c4 a)
def q_W_draft (dC : Nat → ClassId) (dI : Nat → Nat → Nat) (cB cI cL : ClassId) (A : Nat → Prop) (adW : Nat) (adD : Nat) (adD_parts : Nat) (adD_bytes : Nat) (adD_lows : Nat) (adD_highs : Nat) (adT : Nat) (adR : Nat) (adG : Nat) (adF : Nat) (adH : Nat) (adP : Nat) (a : zD) : Array Value → State → Outcome → State → Prop := va_Qv (fun (u : zD) => (u) = a) (fun u U => va_P (dC, dI) zcl (zwW adW adT adR adG adF adH adD adP ++ zwD adD adD_parts adD_bytes adD_lows adD_highs cB cI cL u) U.heap ∧ va_D A (zwW adW adT adR adG adF adH adD adP ++ zwD adD adD_parts adD_bytes adD_lows adD_highs cB cI cL u)) A
set_option maxRecDepth 100000 in
set_option maxHeartbeats 4000000 in
theorem k_W_draft_0 {p : Program} {l : Launch} {e : Env} {R : Room} {s : State} {m : MethodId} {args : Array Value} {below : List Frame} {meth : Method} {c : Code} {dC : Nat → ClassId} {dI : Nat → Nat → Nat} {cB cI cL : ClassId} {A : Nat → Prop} {adT adR adG adF adH adP : Nat} (X : zx p s m args meth c R R_W b_W_draft none 1 2 44) (hA : ∀ q, s.heap.size ≤ q → A q) (zz : zk dC dI cB cI cL A s)  (N : Nat) (sD : zD) (a : zD) (hG : g_W_draft N sD = some a) (adW adD adD_parts adD_bytes adD_lows adD_highs : Nat) (H : Heap) (locs : List Loc) (hP : va_P (dC, dI) zcl (zwW adW adT adR adG adF adH adD adP ++ zwD adD adD_parts adD_bytes adD_lows adD_highs cB cI cL sD) H) (hD : va_D A (zwW adW adT adR adG adF adH adD adP ++ zwD adD adD_parts adD_bytes adD_lows adD_highs cB cI cL sD)) (hS : va_S A s.heap H locs) (ls : Array Slot) (hl : lv_has ls 1 [(0, .ref adW)]) : W p l e R s m args below meth c H locs 0 0 (MQ below (q_W_draft dC dI cB cI cL A adW adD adD_parts adD_bytes adD_lows adD_highs adT adR adG adF adH adP a) args s 0 0 A) (F0 m 0 ls []) := by
  obtain ⟨hx, hb, hr, hml, hown, hts, hlocks, hRf, hRl⟩ := id X
  unfold g_W_draft at hG
  refine lv_aload_n hx hb d_W_draft_0 rfl (lv_at hl 0 rfl) ?_
  refine va_get (D := (dC, dI)) (ci := 0) (v := .ref adD) (C := R_W) (T := F_W) (N := 7) hx hb hts zi_W hown zz.1 hP 0 rfl rfl 5 (by decide) (hts (.fieldLink R_W 49 "WireCodec" "drafted" "LWireCodec$Draft;") zin_W_49) (fun _ h9 => h9) rfl d_W_draft_1 ?_
  obtain ⟨a_4, hx_4, hG⟩ := zb hG
  have hr_4 := zrunV (p := p) (e := e) (below := below) (meth := meth) (As := []) (rest := []) (st0 := [.ref adD]) (cells := 0) (slots := 0) X zz hP hD hS hA [1, 2, 3, 4, 5] (by decide) rfl (c_D_empty l dC dI cB cI cL H.size adD adD_parts adD_bytes adD_lows adD_highs N sD _ hx_4) zy_D_empty zv_D_empty (hts (.methodLink R_W 200 y_D_empty) zin_W_200) hl rfl rfl d_W_draft_4 (lv_room (Nat.le_of_ble_eq_true rfl)) rfl rfl ⟨Nat.le_trans (Nat.le_of_ble_eq_true rfl) hRf, Nat.le_trans (Nat.le_of_ble_eq_true rfl) hRl⟩ ⟨Nat.zero_le _, Nat.zero_le _⟩ 0 6 rfl rfl
  refine zcallv (wr := (zwW adW adT adR adG adF adH adD adP)) hr_4 hP hD hS hA [1, 2, 3, 4, 5] [0] rfl rfl (by decide) (by decide) (fun u_4 H locs hw_4 hP hD hS => ?_)
  obtain ⟨sD_4, rfl⟩ : ∃ z, z = u_4 := ⟨_, rfl⟩
  subst hw_4
  have hP : va_P (dC, dI) zcl (zwW adW adT adR adG adF adH adD adP ++ zwD adD adD_parts adD_bytes adD_lows adD_highs cB cI cL sD_4) H := hP
  have hD : va_D A (zwW adW adT adR adG adF adH adD adP ++ zwD adD adD_parts adD_bytes adD_lows adD_highs cB cI cL sD_4) := hD
  have hG : g_W_draft_c4 sD_4 = some a := hG
  unfold g_W_draft_c4 at hG
  exact W.vret hx hb hr (fun t9 ht9 hW9 => ⟨⟨(sD_4), rfl, Option.some.inj hG, by rw [ht9]; exact hP, hD⟩, hS.F ht9⟩) hS.2.2 d_W_draft_7
set_option maxRecDepth 100000 in
set_option maxHeartbeats 4000000 in
theorem c_W_draft (l : Launch) (dC : Nat → ClassId) (dI : Nat → Nat → Nat) (cB cI cL : ClassId) (sz : Nat) (adW adD adD_parts adD_bytes adD_lows adD_highs adT adR adG adF adH adP : Nat) (N : Nat) (sD : zD) (a : zD) (hG : g_W_draft N sD = some a) : Met l y_W_draft (zw y_W_draft b_W_draft 1 none) ({ frames := 2, cells := 0, slots := 0, locals := 44 }) (va_Pc [.ref adW] (zpre dC dI cB cI cL sz (zwW adW adT adR adG adF adH adD adP ++ zwD adD adD_parts adD_bytes adD_lows adD_highs cB cI cL sD))) (q_W_draft dC dI cB cI cL (va_A (zwW adW adT adR adG adF adH adD adP ++ zwD adD adD_parts adD_bytes adD_lows adD_highs cB cI cL sD) sz) adW adD adD_parts adD_bytes adD_lows adD_highs adT adR adG adF adH adP a) 0 0 (va_A (zwW adW adT adR adG adF adH adD adP ++ zwD adD adD_parts adD_bytes adD_lows adD_highs cB cI cL sD) sz) := by
  refine Met.ofW (cc := b_W_draft) (maxL := 1) (ret := none) (by decide) rfl ?_
  intro p e s m args below meth c s₁ B hml hv
  obtain ⟨rfl, hsz, hP, zz, hD0⟩ := hv
  subst hsz
  have X := zx_of (F := 2) (L := 44) B hml (Nat.le_refl _) (Nat.le_refl _)
  have hD := hD0.self (sz := s.heap.size)
  have hA : ∀ q : Nat, s.heap.size ≤ q → va_A (zwW adW adT adR adG adF adH adD adP ++ zwD adD adD_parts adD_bytes adD_lows adD_highs cB cI cL sD) s.heap.size q := fun q h => Or.inr h
  have hl := lv_entry ([.ref adW]) (n := 1) (Nat.le_of_ble_eq_true rfl)
  rw [lg_entry_eq]
  generalize (lg_sl ([.ref adW]) ++ List.replicate (1 - (lg_sl ([.ref adW])).length) Slot.unset).toArray = ls at hl ⊢
  exact k_W_draft_0 X hA zz N sD a hG adW adD adD_parts adD_bytes adD_lows adD_highs _ _ hP hD va_S.rf ls hl
noncomputable def g_D_writeHeader_c125 (sT_125 : zT) : Option ((zT) × Nat × Nat) := some ((sT_125), 0, 0)
noncomputable def g_D_writeHeader_120 (N : Nat) (sT : zT) (sD : zD) (v6 : Int32) : Option ((zT) × Nat × Nat) := zcbd (g_T_writeNumber N sT v6.toInt64 (2 : Int32)) (fun a => g_D_writeHeader_c125 a)
noncomputable def g_D_writeHeader_c117 (N : Nat) (sD : zD) (v6 : Int32) (sT_117 : zT) : Option ((zT) × Nat × Nat) := g_D_writeHeader_120 N sT_117 sD v6
noncomputable def g_D_writeHeader_c100 (N : Nat) (sD : zD) (v4 : Int32) (v5 : Int32) (v6 : Int32) (sT_100 : zT) : Option ((zT) × Nat × Nat) := zcbd (g_T_writeBytes N sT_100 (zD_bytes sD) 2000 (v4 + v5) (zD_length sD)) (fun a => g_D_writeHeader_c117 N sD v6 a)
noncomputable def g_D_writeHeader_c80 (N : Nat) (sD : zD) (v2 : Int32) (v4 : Int32) (v5 : Int32) (v6 : Int32) (sT_80 : zT) : Option ((zT) × Nat × Nat) := if v2 = (0 : Int32) then (zcbd (g_T_writeNumber N sT_80 ((((zD_length sD) - v4) - v5).toInt64) (0 : Int32)) (fun a => g_D_writeHeader_c100 N sD v4 v5 v6 a)) else (g_D_writeHeader_120 N sT_80 sD v6)
noncomputable def g_D_writeHeader_c65 (N : Nat) (sD : zD) (v2 : Int32) (v4 : Int32) (v5 : Int32) (v6 : Int32) (sT_65 : zT) : Option ((zT) × Nat × Nat) := zcbd (g_T_writeBytes N sT_65 (zD_bytes sD) 2000 v4 (v4 + v5)) (fun a => g_D_writeHeader_c80 N sD v2 v4 v5 v6 a)
noncomputable def g_D_writeHeader_c59 (N : Nat) (sD : zD) (v2 : Int32) (v4 : Int32) (v5 : Int32) (v6 : Int32) (sT_59 : zT) : Option ((zT) × Nat × Nat) := zcbd (g_T_writeByte sT_59 v5) (fun a => g_D_writeHeader_c65 N sD v2 v4 v5 v6 a)
noncomputable def g_D_writeHeader_c48 (N : Nat) (sD : zD) (v2 : Int32) (v4 : Int32) (v5 : Int32) (v6 : Int32) (sT_48 : zT) : Option ((zT) × Nat × Nat) := zcbd (g_T_writeBytes N sT_48 (zD_bytes sD) 2000 (0 : Int32) v4) (fun a => g_D_writeHeader_c59 N sD v2 v4 v5 v6 a)
noncomputable def g_D_writeHeader_c42 (N : Nat) (sD : zD) (v2 : Int32) (v4 : Int32) (v5 : Int32) (v6 : Int32) (sT_42 : zT) : Option ((zT) × Nat × Nat) := zcbd (g_T_writeByte sT_42 v4) (fun a => g_D_writeHeader_c48 N sD v2 v4 v5 v6 a)
noncomputable def g_D_writeHeader_c36 (N : Nat) (sD : zD) (v2 : Int32) (v4 : Int32) (v5 : Int32) (v6 : Int32) (sT_36 : zT) : Option ((zT) × Nat × Nat) := zcbd (g_T_writeWord N sT_36 (1 : Int64) (4 : Int32)) (fun a => g_D_writeHeader_c42 N sD v2 v4 v5 v6 a)
noncomputable def g_D_writeHeader_c21 (sT_21 : zT) : Option ((zT) × Nat × Nat) := some ((sT_21), 0, 0)
noncomputable def g_D_writeHeader_c10 (N : Nat) (sD : zD) (v4 : Int32) (sT_10 : zT) : Option ((zT) × Nat × Nat) := zcbd (g_T_writeBytes N sT_10 (zD_bytes sD) 2000 (0 : Int32) v4) (fun a => g_D_writeHeader_c21 a)
noncomputable def g_D_writeHeader (N : Nat) (sT : zT) (sD : zD) (v2 : Int32) (v3 : Int32) (v4 : Int32) (v5 : Int32) (v6 : Int32) : Option ((zT) × Nat × Nat) := if v2 = (4 : Int32) then (zcbd (g_T_writeByte sT ((64 : Int32) + v3)) (fun a => g_D_writeHeader_c10 N sD v4 a)) else (zcbd (g_T_writeByte sT (((192 : Int32) + ((16 : Int32) * v2)) + v3)) (fun a => g_D_writeHeader_c36 N sD v2 v4 v5 v6 a))
def q_D_writeHeader (dC : Nat → ClassId) (dI : Nat → Nat → Nat) (cB cI cL : ClassId) (A : Nat → Prop) (adT : Nat) (adD : Nat) (adD_parts : Nat) (adD_bytes : Nat) (adD_lows : Nat) (adD_highs : Nat) (sD : zD) (a : zT) : Array Value → State → Outcome → State → Prop := va_Qv (fun (u : zT × Nat) => (u.1) = a) (fun u U => va_P (dC, dI) zcl (zwT adT u.2 cB cI cL u.1 ++ zwD adD adD_parts adD_bytes adD_lows adD_highs cB cI cL sD) U.heap ∧ va_D A (zwT adT u.2 cB cI cL u.1 ++ zwD adD adD_parts adD_bytes adD_lows adD_highs cB cI cL sD)) A
set_option maxRecDepth 100000 in
set_option maxHeartbeats 4000000 in
theorem k_D_writeHeader_120 {p : Program} {l : Launch} {e : Env} {R : Room} {s : State} {m : MethodId} {args : Array Value} {below : List Frame} {meth : Method} {c : Code} {dC : Nat → ClassId} {dI : Nat → Nat → Nat} {cB cI cL : ClassId} {A : Nat → Prop} (X : zx p s m args meth c R R_D b_D_writeHeader none 7 5 153) (hA : ∀ q, s.heap.size ≤ q → A q) (zz : zk dC dI cB cI cL A s)  (N : Nat) (sT : zT) (sD : zD) (v6 : Int32) (a : zT) (c9 z9 cells slots tc tz : Nat) (hG : g_D_writeHeader_120 N sT sD v6 = some (a, c9, z9)) (kc : cells + c9 = tc) (kz : slots + z9 = tz) (hRc : tc ≤ R.cells) (hRz : tz ≤ R.slots) (adT adT_bytes adD adD_parts adD_bytes adD_lows adD_highs : Nat) (H : Heap) (locs : List Loc) (hP : va_P (dC, dI) zcl (zwT adT adT_bytes cB cI cL sT ++ zwD adD adD_parts adD_bytes adD_lows adD_highs cB cI cL sD) H) (hD : va_D A (zwT adT adT_bytes cB cI cL sT ++ zwD adD adD_parts adD_bytes adD_lows adD_highs cB cI cL sD)) (hS : va_S A s.heap H locs) (ls : Array Slot) (hl : lv_has ls 7 [(1, .ref adT), (6, .int v6)]) : W p l e R s m args below meth c H locs cells slots (MQ below (q_D_writeHeader dC dI cB cI cL A adT adD adD_parts adD_bytes adD_lows adD_highs sD a) args s tc tz A) (F0 m 120 ls []) := by
  obtain ⟨hx, hb, hr, hml, hown, hts, hlocks, hRf, hRl⟩ := id X
  unfold g_D_writeHeader_120 at hG
  refine lv_aload_n hx hb d_D_writeHeader_120 rfl (lv_at hl 0 rfl) ?_
  refine lv_iload hx hb d_D_writeHeader_121 (lv_at hl 1 rfl) ?_
  refine lv_i2l hx hb d_D_writeHeader_123 rfl ?_
  refine lv_iconst (v := (2 : Int32)) hx hb d_D_writeHeader_124 (by decide) ?_
  obtain ⟨a_125, c_125, z_125, c9, z9, hx_125, hG, kc, kz⟩ := zcbde hG kc kz
  have hr_125 := zrunV (p := p) (e := e) (below := below) (meth := meth) (As := [.long v6.toInt64, .int (2 : Int32)]) (rest := []) (st0 := [.int (2 : Int32), .long v6.toInt64, .ref adT]) (cells := cells) (slots := slots) X zz hP hD hS hA [0, 1] (by decide) rfl (c_T_writeNumber l dC dI cB cI cL H.size adT adT_bytes N sT v6.toInt64 (2 : Int32) _ _ _ hx_125) zy_T_writeNumber zv_T_writeNumber (hts (.methodLink R_D 85 y_T_writeNumber) zin_D_85) hl rfl rfl d_D_writeHeader_125 (lv_room (Nat.le_of_ble_eq_true rfl)) rfl rfl ⟨Nat.le_trans (Nat.le_of_ble_eq_true rfl) hRf, Nat.le_trans (Nat.le_of_ble_eq_true rfl) hRl⟩ ⟨zle kc hRc, zle kz hRz⟩ 0 1 rfl rfl
  refine zcallv (wr := (zwD adD adD_parts adD_bytes adD_lows adD_highs cB cI cL sD)) hr_125 hP hD hS hA [0, 1] [2, 3, 4, 5, 6] rfl rfl (by decide) (by decide) (fun u_125 H locs hw_125 hP hD hS => ?_)
  obtain ⟨sT_125, qT_bytes_125⟩ := u_125
  subst hw_125
  have hP : va_P (dC, dI) zcl (zwD adD adD_parts adD_bytes adD_lows adD_highs cB cI cL sD ++ zwT adT qT_bytes_125 cB cI cL sT_125) H := hP
  have hD : va_D A (zwD adD adD_parts adD_bytes adD_lows adD_highs cB cI cL sD ++ zwT adT qT_bytes_125 cB cI cL sT_125) := hD
  have hG : g_D_writeHeader_c125 sT_125 = some (a, c9, z9) := hG
  unfold g_D_writeHeader_c125 at hG
  generalize cells + c_125 = cells at kc ⊢
  generalize slots + z_125 = slots at kz ⊢
  obtain ⟨hG, e91, e92⟩ := zc0 hG
  refine W.widen (k := tc) (n := tz) (Nat.le.intro kc) (Nat.le.intro kz) ?_
  exact W.vret hx hb hr (fun t9 ht9 hW9 => ⟨⟨(sT_125, qT_bytes_125), rfl, hG, by rw [ht9]; exact (hP.sub [5, 6, 0, 1, 2, 3, 4] rfl), (hD.sub [5, 6, 0, 1, 2, 3, 4] (by decide) rfl)⟩, hS.F ht9⟩) hS.2.2 d_D_writeHeader_128
set_option maxRecDepth 100000 in
set_option maxHeartbeats 4000000 in
theorem k_D_writeHeader_0 {p : Program} {l : Launch} {e : Env} {R : Room} {s : State} {m : MethodId} {args : Array Value} {below : List Frame} {meth : Method} {c : Code} {dC : Nat → ClassId} {dI : Nat → Nat → Nat} {cB cI cL : ClassId} {A : Nat → Prop} (X : zx p s m args meth c R R_D b_D_writeHeader none 7 5 153) (hA : ∀ q, s.heap.size ≤ q → A q) (zz : zk dC dI cB cI cL A s)  (N : Nat) (sT : zT) (sD : zD) (v2 : Int32) (v3 : Int32) (v4 : Int32) (v5 : Int32) (v6 : Int32) (a : zT) (c9 z9 cells slots tc tz : Nat) (hG : g_D_writeHeader N sT sD v2 v3 v4 v5 v6 = some (a, c9, z9)) (kc : cells + c9 = tc) (kz : slots + z9 = tz) (hRc : tc ≤ R.cells) (hRz : tz ≤ R.slots) (adT adT_bytes adD adD_parts adD_bytes adD_lows adD_highs : Nat) (H : Heap) (locs : List Loc) (hP : va_P (dC, dI) zcl (zwT adT adT_bytes cB cI cL sT ++ zwD adD adD_parts adD_bytes adD_lows adD_highs cB cI cL sD) H) (hD : va_D A (zwT adT adT_bytes cB cI cL sT ++ zwD adD adD_parts adD_bytes adD_lows adD_highs cB cI cL sD)) (hS : va_S A s.heap H locs) (ls : Array Slot) (hl : lv_has ls 7 [(0, .ref adD), (1, .ref adT), (2, .int v2), (3, .int v3), (4, .int v4), (5, .int v5), (6, .int v6)]) : W p l e R s m args below meth c H locs cells slots (MQ below (q_D_writeHeader dC dI cB cI cL A adT adD adD_parts adD_bytes adD_lows adD_highs sD a) args s tc tz A) (F0 m 0 ls []) := by
  obtain ⟨hx, hb, hr, hml, hown, hts, hlocks, hRf, hRl⟩ := id X
  unfold g_D_writeHeader at hG
  refine lv_iload_n hx hb d_D_writeHeader_0 rfl (lv_at hl 2 rfl) ?_
  refine lv_iconst (v := (4 : Int32)) hx hb d_D_writeHeader_1 (by decide) ?_
  refine lv_icmp_ne (tgt := 25) hx hb d_D_writeHeader_2 (by decide) (fun hc => ?_) (fun hc => ?_)
  · have hG := zf hG hc
    refine lv_aload_n hx hb d_D_writeHeader_25 rfl (lv_at hl 1 rfl) ?_
    refine lv_sipush (v := (192 : Int32)) hx hb d_D_writeHeader_26 (by decide) ?_
    refine lv_bipush (v := (16 : Int32)) hx hb d_D_writeHeader_29 (by decide) ?_
    refine lv_iload_n hx hb d_D_writeHeader_31 rfl (lv_at hl 2 rfl) ?_
    refine lv_imul hx hb d_D_writeHeader_32 ?_
    refine lv_iadd hx hb d_D_writeHeader_33 ?_
    refine lv_iload_n hx hb d_D_writeHeader_34 rfl (lv_at hl 3 rfl) ?_
    refine lv_iadd hx hb d_D_writeHeader_35 ?_
    obtain ⟨a_36, c_36, z_36, c9, z9, hx_36, hG, kc, kz⟩ := zcbde hG kc kz
    have hr_36 := zrunV (p := p) (e := e) (below := below) (meth := meth) (As := [.int (((192 : Int32) + ((16 : Int32) * v2)) + v3)]) (rest := []) (st0 := [.int (((192 : Int32) + ((16 : Int32) * v2)) + v3), .ref adT]) (cells := cells) (slots := slots) X zz hP hD hS hA [0, 1] (by decide) rfl (c_T_writeByte l dC dI cB cI cL H.size adT adT_bytes sT (((192 : Int32) + ((16 : Int32) * v2)) + v3) _ _ _ hx_36) zy_T_writeByte zv_T_writeByte (hts (.methodLink R_D 57 y_T_writeByte) zin_D_57) hl rfl rfl d_D_writeHeader_36 (lv_room (Nat.le_of_ble_eq_true rfl)) rfl rfl ⟨Nat.le_trans (Nat.le_of_ble_eq_true rfl) hRf, Nat.le_trans (Nat.le_of_ble_eq_true rfl) hRl⟩ ⟨zle kc hRc, zle kz hRz⟩ 0 1 rfl rfl
    refine zcallv (wr := (zwD adD adD_parts adD_bytes adD_lows adD_highs cB cI cL sD)) hr_36 hP hD hS hA [0, 1] [2, 3, 4, 5, 6] rfl rfl (by decide) (by decide) (fun u_36 H locs hw_36 hP hD hS => ?_)
    obtain ⟨sT_36, qT_bytes_36⟩ := u_36
    subst hw_36
    have hP : va_P (dC, dI) zcl (zwD adD adD_parts adD_bytes adD_lows adD_highs cB cI cL sD ++ zwT adT qT_bytes_36 cB cI cL sT_36) H := hP
    have hD : va_D A (zwD adD adD_parts adD_bytes adD_lows adD_highs cB cI cL sD ++ zwT adT qT_bytes_36 cB cI cL sT_36) := hD
    have hG : g_D_writeHeader_c36 N sD v2 v4 v5 v6 sT_36 = some (a, c9, z9) := hG
    unfold g_D_writeHeader_c36 at hG
    generalize cells + c_36 = cells at kc ⊢
    generalize slots + z_36 = slots at kz ⊢
    refine lv_aload_n hx hb d_D_writeHeader_39 rfl (lv_at hl 1 rfl) ?_
    refine lv_lconst (v := (1 : Int64)) hx hb d_D_writeHeader_40 (by decide) ?_
    refine lv_iconst (v := (4 : Int32)) hx hb d_D_writeHeader_41 (by decide) ?_
    obtain ⟨a_42, c_42, z_42, c9, z9, hx_42, hG, kc, kz⟩ := zcbde hG kc kz
    have hr_42 := zrunV (p := p) (e := e) (below := below) (meth := meth) (As := [.long (1 : Int64), .int (4 : Int32)]) (rest := []) (st0 := [.int (4 : Int32), .long (1 : Int64), .ref adT]) (cells := cells) (slots := slots) X zz hP hD hS hA [5, 6] (by decide) rfl (c_T_writeWord l dC dI cB cI cL H.size adT qT_bytes_36 N sT_36 (1 : Int64) (4 : Int32) _ _ _ hx_42) zy_T_writeWord zv_T_writeWord (hts (.methodLink R_D 77 y_T_writeWord) zin_D_77) hl rfl rfl d_D_writeHeader_42 (lv_room (Nat.le_of_ble_eq_true rfl)) rfl rfl ⟨Nat.le_trans (Nat.le_of_ble_eq_true rfl) hRf, Nat.le_trans (Nat.le_of_ble_eq_true rfl) hRl⟩ ⟨zle kc hRc, zle kz hRz⟩ 0 1 rfl rfl
    refine zcallv (wr := (zwD adD adD_parts adD_bytes adD_lows adD_highs cB cI cL sD)) hr_42 hP hD hS hA [5, 6] [0, 1, 2, 3, 4] rfl rfl (by decide) (by decide) (fun u_42 H locs hw_42 hP hD hS => ?_)
    obtain ⟨sT_42, qT_bytes_42⟩ := u_42
    subst hw_42
    have hP : va_P (dC, dI) zcl (zwD adD adD_parts adD_bytes adD_lows adD_highs cB cI cL sD ++ zwT adT qT_bytes_42 cB cI cL sT_42) H := hP
    have hD : va_D A (zwD adD adD_parts adD_bytes adD_lows adD_highs cB cI cL sD ++ zwT adT qT_bytes_42 cB cI cL sT_42) := hD
    have hG : g_D_writeHeader_c42 N sD v2 v4 v5 v6 sT_42 = some (a, c9, z9) := hG
    unfold g_D_writeHeader_c42 at hG
    generalize cells + c_42 = cells at kc ⊢
    generalize slots + z_42 = slots at kz ⊢
    refine lv_aload_n hx hb d_D_writeHeader_45 rfl (lv_at hl 1 rfl) ?_
    refine lv_iload hx hb d_D_writeHeader_46 (lv_at hl 4 rfl) ?_
    obtain ⟨a_48, c_48, z_48, c9, z9, hx_48, hG, kc, kz⟩ := zcbde hG kc kz
    have hr_48 := zrunV (p := p) (e := e) (below := below) (meth := meth) (As := [.int v4]) (rest := []) (st0 := [.int v4, .ref adT]) (cells := cells) (slots := slots) X zz hP hD hS hA [5, 6] (by decide) rfl (c_T_writeByte l dC dI cB cI cL H.size adT qT_bytes_42 sT_42 v4 _ _ _ hx_48) zy_T_writeByte zv_T_writeByte (hts (.methodLink R_D 57 y_T_writeByte) zin_D_57) hl rfl rfl d_D_writeHeader_48 (lv_room (Nat.le_of_ble_eq_true rfl)) rfl rfl ⟨Nat.le_trans (Nat.le_of_ble_eq_true rfl) hRf, Nat.le_trans (Nat.le_of_ble_eq_true rfl) hRl⟩ ⟨zle kc hRc, zle kz hRz⟩ 0 1 rfl rfl
    refine zcallv (wr := (zwD adD adD_parts adD_bytes adD_lows adD_highs cB cI cL sD)) hr_48 hP hD hS hA [5, 6] [0, 1, 2, 3, 4] rfl rfl (by decide) (by decide) (fun u_48 H locs hw_48 hP hD hS => ?_)
    obtain ⟨sT_48, qT_bytes_48⟩ := u_48
    subst hw_48
    have hP : va_P (dC, dI) zcl (zwD adD adD_parts adD_bytes adD_lows adD_highs cB cI cL sD ++ zwT adT qT_bytes_48 cB cI cL sT_48) H := hP
    have hD : va_D A (zwD adD adD_parts adD_bytes adD_lows adD_highs cB cI cL sD ++ zwT adT qT_bytes_48 cB cI cL sT_48) := hD
    have hG : g_D_writeHeader_c48 N sD v2 v4 v5 v6 sT_48 = some (a, c9, z9) := hG
    unfold g_D_writeHeader_c48 at hG
    generalize cells + c_48 = cells at kc ⊢
    generalize slots + z_48 = slots at kz ⊢
    refine lv_aload_n hx hb d_D_writeHeader_51 rfl (lv_at hl 1 rfl) ?_
    refine lv_aload_n hx hb d_D_writeHeader_52 rfl (lv_at hl 0 rfl) ?_
    refine va_get (D := (dC, dI)) (ci := 6) (v := .ref adD_bytes) (C := R_D) (T := F_D) (N := 6) hx hb hts zi_D hown zz.1 hP 0 rfl rfl 1 (by decide) (hts (.fieldLink R_D 15 "WireCodec$Draft" "bytes" "[B") zin_D_15) (fun _ h9 => h9) rfl d_D_writeHeader_53 ?_
    refine lv_iconst (v := (0 : Int32)) hx hb d_D_writeHeader_56 (by decide) ?_
    refine lv_iload hx hb d_D_writeHeader_57 (lv_at hl 4 rfl) ?_
    obtain ⟨a_59, c_59, z_59, c9, z9, hx_59, hG, kc, kz⟩ := zcbde hG kc kz
    have hr_59 := zrunV (p := p) (e := e) (below := below) (meth := meth) (As := [.ref adD_bytes, .int (0 : Int32), .int v4]) (rest := []) (st0 := [.int v4, .int (0 : Int32), .ref adD_bytes, .ref adT]) (cells := cells) (slots := slots) X zz hP hD hS hA [5, 6, 2] (by decide) rfl (c_T_writeBytes l dC dI cB cI cL H.size adT qT_bytes_48 adD_bytes N sT_48 (zD_bytes sD) 2000 (0 : Int32) v4 _ _ _ hx_59) zy_T_writeBytes zv_T_writeBytes (hts (.methodLink R_D 81 y_T_writeBytes) zin_D_81) hl rfl rfl d_D_writeHeader_59 (lv_room (Nat.le_of_ble_eq_true rfl)) rfl rfl ⟨Nat.le_trans (Nat.le_of_ble_eq_true rfl) hRf, Nat.le_trans (Nat.le_of_ble_eq_true rfl) hRl⟩ ⟨zle kc hRc, zle kz hRz⟩ 0 1 rfl rfl
    refine zcallv (wr := ([(adD, .inr (6, [.ref adD_parts, .ref adD_bytes, .ref adD_lows, .ref adD_highs, .int (zD_length sD), .int (zD_ranges sD)])), (adD_parts, .inl (cL, 12, .inr (.inl (zD_parts sD)))), (adD_lows, .inl (cL, 500, .inr (.inl (zD_lows sD)))), (adD_highs, .inl (cL, 500, .inr (.inl (zD_highs sD))))])) hr_59 hP hD hS hA [5, 6, 2] [0, 1, 3, 4] rfl rfl (by decide) (by decide) (fun u_59 H locs hw_59 hP hD hS => ?_)
    obtain ⟨sT_59, qT_bytes_59⟩ := u_59
    subst hw_59
    have hP : va_P (dC, dI) zcl (zwD adD adD_parts adD_bytes adD_lows adD_highs cB cI cL sD ++ zwT adT qT_bytes_59 cB cI cL sT_59) H := hP.sub [0, 1, 6, 2, 3, 4, 5] rfl
    have hD : va_D A (zwD adD adD_parts adD_bytes adD_lows adD_highs cB cI cL sD ++ zwT adT qT_bytes_59 cB cI cL sT_59) := hD.sub [0, 1, 6, 2, 3, 4, 5] (by decide) rfl
    have hG : g_D_writeHeader_c59 N sD v2 v4 v5 v6 sT_59 = some (a, c9, z9) := hG
    unfold g_D_writeHeader_c59 at hG
    generalize cells + c_59 = cells at kc ⊢
    generalize slots + z_59 = slots at kz ⊢
    refine lv_aload_n hx hb d_D_writeHeader_62 rfl (lv_at hl 1 rfl) ?_
    refine lv_iload hx hb d_D_writeHeader_63 (lv_at hl 5 rfl) ?_
    obtain ⟨a_65, c_65, z_65, c9, z9, hx_65, hG, kc, kz⟩ := zcbde hG kc kz
    have hr_65 := zrunV (p := p) (e := e) (below := below) (meth := meth) (As := [.int v5]) (rest := []) (st0 := [.int v5, .ref adT]) (cells := cells) (slots := slots) X zz hP hD hS hA [5, 6] (by decide) rfl (c_T_writeByte l dC dI cB cI cL H.size adT qT_bytes_59 sT_59 v5 _ _ _ hx_65) zy_T_writeByte zv_T_writeByte (hts (.methodLink R_D 57 y_T_writeByte) zin_D_57) hl rfl rfl d_D_writeHeader_65 (lv_room (Nat.le_of_ble_eq_true rfl)) rfl rfl ⟨Nat.le_trans (Nat.le_of_ble_eq_true rfl) hRf, Nat.le_trans (Nat.le_of_ble_eq_true rfl) hRl⟩ ⟨zle kc hRc, zle kz hRz⟩ 0 1 rfl rfl
    refine zcallv (wr := (zwD adD adD_parts adD_bytes adD_lows adD_highs cB cI cL sD)) hr_65 hP hD hS hA [5, 6] [0, 1, 2, 3, 4] rfl rfl (by decide) (by decide) (fun u_65 H locs hw_65 hP hD hS => ?_)
    obtain ⟨sT_65, qT_bytes_65⟩ := u_65
    subst hw_65
    have hP : va_P (dC, dI) zcl (zwD adD adD_parts adD_bytes adD_lows adD_highs cB cI cL sD ++ zwT adT qT_bytes_65 cB cI cL sT_65) H := hP
    have hD : va_D A (zwD adD adD_parts adD_bytes adD_lows adD_highs cB cI cL sD ++ zwT adT qT_bytes_65 cB cI cL sT_65) := hD
    have hG : g_D_writeHeader_c65 N sD v2 v4 v5 v6 sT_65 = some (a, c9, z9) := hG
    unfold g_D_writeHeader_c65 at hG
    generalize cells + c_65 = cells at kc ⊢
    generalize slots + z_65 = slots at kz ⊢
    refine lv_aload_n hx hb d_D_writeHeader_68 rfl (lv_at hl 1 rfl) ?_
    refine lv_aload_n hx hb d_D_writeHeader_69 rfl (lv_at hl 0 rfl) ?_
    refine va_get (D := (dC, dI)) (ci := 6) (v := .ref adD_bytes) (C := R_D) (T := F_D) (N := 6) hx hb hts zi_D hown zz.1 hP 0 rfl rfl 1 (by decide) (hts (.fieldLink R_D 15 "WireCodec$Draft" "bytes" "[B") zin_D_15) (fun _ h9 => h9) rfl d_D_writeHeader_70 ?_
    refine lv_iload hx hb d_D_writeHeader_73 (lv_at hl 4 rfl) ?_
    refine lv_iload hx hb d_D_writeHeader_75 (lv_at hl 4 rfl) ?_
    refine lv_iload hx hb d_D_writeHeader_77 (lv_at hl 5 rfl) ?_
    refine lv_iadd hx hb d_D_writeHeader_79 ?_
    obtain ⟨a_80, c_80, z_80, c9, z9, hx_80, hG, kc, kz⟩ := zcbde hG kc kz
    have hr_80 := zrunV (p := p) (e := e) (below := below) (meth := meth) (As := [.ref adD_bytes, .int v4, .int (v4 + v5)]) (rest := []) (st0 := [.int (v4 + v5), .int v4, .ref adD_bytes, .ref adT]) (cells := cells) (slots := slots) X zz hP hD hS hA [5, 6, 2] (by decide) rfl (c_T_writeBytes l dC dI cB cI cL H.size adT qT_bytes_65 adD_bytes N sT_65 (zD_bytes sD) 2000 v4 (v4 + v5) _ _ _ hx_80) zy_T_writeBytes zv_T_writeBytes (hts (.methodLink R_D 81 y_T_writeBytes) zin_D_81) hl rfl rfl d_D_writeHeader_80 (lv_room (Nat.le_of_ble_eq_true rfl)) rfl rfl ⟨Nat.le_trans (Nat.le_of_ble_eq_true rfl) hRf, Nat.le_trans (Nat.le_of_ble_eq_true rfl) hRl⟩ ⟨zle kc hRc, zle kz hRz⟩ 0 1 rfl rfl
    refine zcallv (wr := ([(adD, .inr (6, [.ref adD_parts, .ref adD_bytes, .ref adD_lows, .ref adD_highs, .int (zD_length sD), .int (zD_ranges sD)])), (adD_parts, .inl (cL, 12, .inr (.inl (zD_parts sD)))), (adD_lows, .inl (cL, 500, .inr (.inl (zD_lows sD)))), (adD_highs, .inl (cL, 500, .inr (.inl (zD_highs sD))))])) hr_80 hP hD hS hA [5, 6, 2] [0, 1, 3, 4] rfl rfl (by decide) (by decide) (fun u_80 H locs hw_80 hP hD hS => ?_)
    obtain ⟨sT_80, qT_bytes_80⟩ := u_80
    subst hw_80
    have hP : va_P (dC, dI) zcl (zwD adD adD_parts adD_bytes adD_lows adD_highs cB cI cL sD ++ zwT adT qT_bytes_80 cB cI cL sT_80) H := hP.sub [0, 1, 6, 2, 3, 4, 5] rfl
    have hD : va_D A (zwD adD adD_parts adD_bytes adD_lows adD_highs cB cI cL sD ++ zwT adT qT_bytes_80 cB cI cL sT_80) := hD.sub [0, 1, 6, 2, 3, 4, 5] (by decide) rfl
    have hG : g_D_writeHeader_c80 N sD v2 v4 v5 v6 sT_80 = some (a, c9, z9) := hG
    unfold g_D_writeHeader_c80 at hG
    generalize cells + c_80 = cells at kc ⊢
    generalize slots + z_80 = slots at kz ⊢
    refine lv_iload_n hx hb d_D_writeHeader_83 rfl (lv_at hl 2 rfl) ?_
    refine lv_if_ne (tgt := 120) hx hb d_D_writeHeader_84 (by decide) (fun hc => ?_) (fun hc => ?_)
    · have hG := zf hG hc
      exact k_D_writeHeader_120 X hA zz N sT_80 sD v6 _ _ _ _ _ _ _ hG kc kz hRc hRz adT qT_bytes_80 adD adD_parts adD_bytes adD_lows adD_highs _ _ (hP.sub [5, 6, 0, 1, 2, 3, 4] rfl) (hD.sub [5, 6, 0, 1, 2, 3, 4] (by decide) rfl) hS _ (lv_sub hl [1, 6] rfl)
    · have hG := zt hG hc
      refine lv_aload_n hx hb d_D_writeHeader_87 rfl (lv_at hl 1 rfl) ?_
      refine lv_aload_n hx hb d_D_writeHeader_88 rfl (lv_at hl 0 rfl) ?_
      refine va_get (D := (dC, dI)) (ci := 6) (v := .int (zD_length sD)) (C := R_D) (T := F_D) (N := 6) hx hb hts zi_D hown zz.1 hP 0 rfl rfl 4 (by decide) (hts (.fieldLink R_D 31 "WireCodec$Draft" "length" "I") zin_D_31) (fun _ h9 => h9) rfl d_D_writeHeader_89 ?_
      refine lv_iload hx hb d_D_writeHeader_92 (lv_at hl 4 rfl) ?_
      refine lv_isub hx hb d_D_writeHeader_94 ?_
      refine lv_iload hx hb d_D_writeHeader_95 (lv_at hl 5 rfl) ?_
      refine lv_isub hx hb d_D_writeHeader_97 ?_
      refine lv_i2l hx hb d_D_writeHeader_98 rfl ?_
      refine lv_iconst (v := (0 : Int32)) hx hb d_D_writeHeader_99 (by decide) ?_
      obtain ⟨a_100, c_100, z_100, c9, z9, hx_100, hG, kc, kz⟩ := zcbde hG kc kz
      have hr_100 := zrunV (p := p) (e := e) (below := below) (meth := meth) (As := [.long ((((zD_length sD) - v4) - v5).toInt64), .int (0 : Int32)]) (rest := []) (st0 := [.int (0 : Int32), .long ((((zD_length sD) - v4) - v5).toInt64), .ref adT]) (cells := cells) (slots := slots) X zz hP hD hS hA [5, 6] (by decide) rfl (c_T_writeNumber l dC dI cB cI cL H.size adT qT_bytes_80 N sT_80 ((((zD_length sD) - v4) - v5).toInt64) (0 : Int32) _ _ _ hx_100) zy_T_writeNumber zv_T_writeNumber (hts (.methodLink R_D 85 y_T_writeNumber) zin_D_85) hl rfl rfl d_D_writeHeader_100 (lv_room (Nat.le_of_ble_eq_true rfl)) rfl rfl ⟨Nat.le_trans (Nat.le_of_ble_eq_true rfl) hRf, Nat.le_trans (Nat.le_of_ble_eq_true rfl) hRl⟩ ⟨zle kc hRc, zle kz hRz⟩ 0 1 rfl rfl
      refine zcallv (wr := (zwD adD adD_parts adD_bytes adD_lows adD_highs cB cI cL sD)) hr_100 hP hD hS hA [5, 6] [0, 1, 2, 3, 4] rfl rfl (by decide) (by decide) (fun u_100 H locs hw_100 hP hD hS => ?_)
      obtain ⟨sT_100, qT_bytes_100⟩ := u_100
      subst hw_100
      have hP : va_P (dC, dI) zcl (zwD adD adD_parts adD_bytes adD_lows adD_highs cB cI cL sD ++ zwT adT qT_bytes_100 cB cI cL sT_100) H := hP
      have hD : va_D A (zwD adD adD_parts adD_bytes adD_lows adD_highs cB cI cL sD ++ zwT adT qT_bytes_100 cB cI cL sT_100) := hD
      have hG : g_D_writeHeader_c100 N sD v4 v5 v6 sT_100 = some (a, c9, z9) := hG
      unfold g_D_writeHeader_c100 at hG
      generalize cells + c_100 = cells at kc ⊢
      generalize slots + z_100 = slots at kz ⊢
      refine lv_aload_n hx hb d_D_writeHeader_103 rfl (lv_at hl 1 rfl) ?_
      refine lv_aload_n hx hb d_D_writeHeader_104 rfl (lv_at hl 0 rfl) ?_
      refine va_get (D := (dC, dI)) (ci := 6) (v := .ref adD_bytes) (C := R_D) (T := F_D) (N := 6) hx hb hts zi_D hown zz.1 hP 0 rfl rfl 1 (by decide) (hts (.fieldLink R_D 15 "WireCodec$Draft" "bytes" "[B") zin_D_15) (fun _ h9 => h9) rfl d_D_writeHeader_105 ?_
      refine lv_iload hx hb d_D_writeHeader_108 (lv_at hl 4 rfl) ?_
      refine lv_iload hx hb d_D_writeHeader_110 (lv_at hl 5 rfl) ?_
      refine lv_iadd hx hb d_D_writeHeader_112 ?_
      refine lv_aload_n hx hb d_D_writeHeader_113 rfl (lv_at hl 0 rfl) ?_
      refine va_get (D := (dC, dI)) (ci := 6) (v := .int (zD_length sD)) (C := R_D) (T := F_D) (N := 6) hx hb hts zi_D hown zz.1 hP 0 rfl rfl 4 (by decide) (hts (.fieldLink R_D 31 "WireCodec$Draft" "length" "I") zin_D_31) (fun _ h9 => h9) rfl d_D_writeHeader_114 ?_
      obtain ⟨a_117, c_117, z_117, c9, z9, hx_117, hG, kc, kz⟩ := zcbde hG kc kz
      have hr_117 := zrunV (p := p) (e := e) (below := below) (meth := meth) (As := [.ref adD_bytes, .int (v4 + v5), .int (zD_length sD)]) (rest := []) (st0 := [.int (zD_length sD), .int (v4 + v5), .ref adD_bytes, .ref adT]) (cells := cells) (slots := slots) X zz hP hD hS hA [5, 6, 2] (by decide) rfl (c_T_writeBytes l dC dI cB cI cL H.size adT qT_bytes_100 adD_bytes N sT_100 (zD_bytes sD) 2000 (v4 + v5) (zD_length sD) _ _ _ hx_117) zy_T_writeBytes zv_T_writeBytes (hts (.methodLink R_D 81 y_T_writeBytes) zin_D_81) hl rfl rfl d_D_writeHeader_117 (lv_room (Nat.le_of_ble_eq_true rfl)) rfl rfl ⟨Nat.le_trans (Nat.le_of_ble_eq_true rfl) hRf, Nat.le_trans (Nat.le_of_ble_eq_true rfl) hRl⟩ ⟨zle kc hRc, zle kz hRz⟩ 0 1 rfl rfl
      refine zcallv (wr := ([(adD, .inr (6, [.ref adD_parts, .ref adD_bytes, .ref adD_lows, .ref adD_highs, .int (zD_length sD), .int (zD_ranges sD)])), (adD_parts, .inl (cL, 12, .inr (.inl (zD_parts sD)))), (adD_lows, .inl (cL, 500, .inr (.inl (zD_lows sD)))), (adD_highs, .inl (cL, 500, .inr (.inl (zD_highs sD))))])) hr_117 hP hD hS hA [5, 6, 2] [0, 1, 3, 4] rfl rfl (by decide) (by decide) (fun u_117 H locs hw_117 hP hD hS => ?_)
      obtain ⟨sT_117, qT_bytes_117⟩ := u_117
      subst hw_117
      have hP : va_P (dC, dI) zcl (zwD adD adD_parts adD_bytes adD_lows adD_highs cB cI cL sD ++ zwT adT qT_bytes_117 cB cI cL sT_117) H := hP.sub [0, 1, 6, 2, 3, 4, 5] rfl
      have hD : va_D A (zwD adD adD_parts adD_bytes adD_lows adD_highs cB cI cL sD ++ zwT adT qT_bytes_117 cB cI cL sT_117) := hD.sub [0, 1, 6, 2, 3, 4, 5] (by decide) rfl
      have hG : g_D_writeHeader_c117 N sD v6 sT_117 = some (a, c9, z9) := hG
      unfold g_D_writeHeader_c117 at hG
      generalize cells + c_117 = cells at kc ⊢
      generalize slots + z_117 = slots at kz ⊢
      exact k_D_writeHeader_120 X hA zz N sT_117 sD v6 _ _ _ _ _ _ _ hG kc kz hRc hRz adT qT_bytes_117 adD adD_parts adD_bytes adD_lows adD_highs _ _ (hP.sub [5, 6, 0, 1, 2, 3, 4] rfl) (hD.sub [5, 6, 0, 1, 2, 3, 4] (by decide) rfl) hS _ (lv_sub hl [1, 6] rfl)
  · have hG := zt hG hc
    refine lv_aload_n hx hb d_D_writeHeader_5 rfl (lv_at hl 1 rfl) ?_
    refine lv_bipush (v := (64 : Int32)) hx hb d_D_writeHeader_6 (by decide) ?_
    refine lv_iload_n hx hb d_D_writeHeader_8 rfl (lv_at hl 3 rfl) ?_
    refine lv_iadd hx hb d_D_writeHeader_9 ?_
    obtain ⟨a_10, c_10, z_10, c9, z9, hx_10, hG, kc, kz⟩ := zcbde hG kc kz
    have hr_10 := zrunV (p := p) (e := e) (below := below) (meth := meth) (As := [.int ((64 : Int32) + v3)]) (rest := []) (st0 := [.int ((64 : Int32) + v3), .ref adT]) (cells := cells) (slots := slots) X zz hP hD hS hA [0, 1] (by decide) rfl (c_T_writeByte l dC dI cB cI cL H.size adT adT_bytes sT ((64 : Int32) + v3) _ _ _ hx_10) zy_T_writeByte zv_T_writeByte (hts (.methodLink R_D 57 y_T_writeByte) zin_D_57) hl rfl rfl d_D_writeHeader_10 (lv_room (Nat.le_of_ble_eq_true rfl)) rfl rfl ⟨Nat.le_trans (Nat.le_of_ble_eq_true rfl) hRf, Nat.le_trans (Nat.le_of_ble_eq_true rfl) hRl⟩ ⟨zle kc hRc, zle kz hRz⟩ 0 1 rfl rfl
    refine zcallv (wr := (zwD adD adD_parts adD_bytes adD_lows adD_highs cB cI cL sD)) hr_10 hP hD hS hA [0, 1] [2, 3, 4, 5, 6] rfl rfl (by decide) (by decide) (fun u_10 H locs hw_10 hP hD hS => ?_)
    obtain ⟨sT_10, qT_bytes_10⟩ := u_10
    subst hw_10
    have hP : va_P (dC, dI) zcl (zwD adD adD_parts adD_bytes adD_lows adD_highs cB cI cL sD ++ zwT adT qT_bytes_10 cB cI cL sT_10) H := hP
    have hD : va_D A (zwD adD adD_parts adD_bytes adD_lows adD_highs cB cI cL sD ++ zwT adT qT_bytes_10 cB cI cL sT_10) := hD
    have hG : g_D_writeHeader_c10 N sD v4 sT_10 = some (a, c9, z9) := hG
    unfold g_D_writeHeader_c10 at hG
    generalize cells + c_10 = cells at kc ⊢
    generalize slots + z_10 = slots at kz ⊢
    refine lv_aload_n hx hb d_D_writeHeader_13 rfl (lv_at hl 1 rfl) ?_
    refine lv_aload_n hx hb d_D_writeHeader_14 rfl (lv_at hl 0 rfl) ?_
    refine va_get (D := (dC, dI)) (ci := 6) (v := .ref adD_bytes) (C := R_D) (T := F_D) (N := 6) hx hb hts zi_D hown zz.1 hP 0 rfl rfl 1 (by decide) (hts (.fieldLink R_D 15 "WireCodec$Draft" "bytes" "[B") zin_D_15) (fun _ h9 => h9) rfl d_D_writeHeader_15 ?_
    refine lv_iconst (v := (0 : Int32)) hx hb d_D_writeHeader_18 (by decide) ?_
    refine lv_iload hx hb d_D_writeHeader_19 (lv_at hl 4 rfl) ?_
    obtain ⟨a_21, c_21, z_21, c9, z9, hx_21, hG, kc, kz⟩ := zcbde hG kc kz
    have hr_21 := zrunV (p := p) (e := e) (below := below) (meth := meth) (As := [.ref adD_bytes, .int (0 : Int32), .int v4]) (rest := []) (st0 := [.int v4, .int (0 : Int32), .ref adD_bytes, .ref adT]) (cells := cells) (slots := slots) X zz hP hD hS hA [5, 6, 2] (by decide) rfl (c_T_writeBytes l dC dI cB cI cL H.size adT qT_bytes_10 adD_bytes N sT_10 (zD_bytes sD) 2000 (0 : Int32) v4 _ _ _ hx_21) zy_T_writeBytes zv_T_writeBytes (hts (.methodLink R_D 81 y_T_writeBytes) zin_D_81) hl rfl rfl d_D_writeHeader_21 (lv_room (Nat.le_of_ble_eq_true rfl)) rfl rfl ⟨Nat.le_trans (Nat.le_of_ble_eq_true rfl) hRf, Nat.le_trans (Nat.le_of_ble_eq_true rfl) hRl⟩ ⟨zle kc hRc, zle kz hRz⟩ 0 1 rfl rfl
    refine zcallv (wr := ([(adD, .inr (6, [.ref adD_parts, .ref adD_bytes, .ref adD_lows, .ref adD_highs, .int (zD_length sD), .int (zD_ranges sD)])), (adD_parts, .inl (cL, 12, .inr (.inl (zD_parts sD)))), (adD_lows, .inl (cL, 500, .inr (.inl (zD_lows sD)))), (adD_highs, .inl (cL, 500, .inr (.inl (zD_highs sD))))])) hr_21 hP hD hS hA [5, 6, 2] [0, 1, 3, 4] rfl rfl (by decide) (by decide) (fun u_21 H locs hw_21 hP hD hS => ?_)
    obtain ⟨sT_21, qT_bytes_21⟩ := u_21
    subst hw_21
    have hP : va_P (dC, dI) zcl (zwD adD adD_parts adD_bytes adD_lows adD_highs cB cI cL sD ++ zwT adT qT_bytes_21 cB cI cL sT_21) H := hP.sub [0, 1, 6, 2, 3, 4, 5] rfl
    have hD : va_D A (zwD adD adD_parts adD_bytes adD_lows adD_highs cB cI cL sD ++ zwT adT qT_bytes_21 cB cI cL sT_21) := hD.sub [0, 1, 6, 2, 3, 4, 5] (by decide) rfl
    have hG : g_D_writeHeader_c21 sT_21 = some (a, c9, z9) := hG
    unfold g_D_writeHeader_c21 at hG
    generalize cells + c_21 = cells at kc ⊢
    generalize slots + z_21 = slots at kz ⊢
    obtain ⟨hG, e91, e92⟩ := zc0 hG
    refine W.widen (k := tc) (n := tz) (Nat.le.intro kc) (Nat.le.intro kz) ?_
    exact W.vret hx hb hr (fun t9 ht9 hW9 => ⟨⟨(sT_21, qT_bytes_21), rfl, hG, by rw [ht9]; exact (hP.sub [5, 6, 0, 1, 2, 3, 4] rfl), (hD.sub [5, 6, 0, 1, 2, 3, 4] (by decide) rfl)⟩, hS.F ht9⟩) hS.2.2 d_D_writeHeader_24
set_option maxRecDepth 100000 in
set_option maxHeartbeats 4000000 in
theorem c_D_writeHeader (l : Launch) (dC : Nat → ClassId) (dI : Nat → Nat → Nat) (cB cI cL : ClassId) (sz : Nat) (adT adT_bytes adD adD_parts adD_bytes adD_lows adD_highs : Nat) (N : Nat) (sT : zT) (sD : zD) (v2 : Int32) (v3 : Int32) (v4 : Int32) (v5 : Int32) (v6 : Int32) (a : zT) (c9 z9 : Nat) (hG : g_D_writeHeader N sT sD v2 v3 v4 v5 v6 = some (a, c9, z9)) : Met l y_D_writeHeader (zw y_D_writeHeader b_D_writeHeader 7 none) ({ frames := 5, cells := c9, slots := z9, locals := 153 }) (va_Pc [.ref adD, .ref adT, .int v2, .int v3, .int v4, .int v5, .int v6] (zpre dC dI cB cI cL sz (zwT adT adT_bytes cB cI cL sT ++ zwD adD adD_parts adD_bytes adD_lows adD_highs cB cI cL sD))) (q_D_writeHeader dC dI cB cI cL (va_A (zwT adT adT_bytes cB cI cL sT ++ zwD adD adD_parts adD_bytes adD_lows adD_highs cB cI cL sD) sz) adT adD adD_parts adD_bytes adD_lows adD_highs sD a) c9 z9 (va_A (zwT adT adT_bytes cB cI cL sT ++ zwD adD adD_parts adD_bytes adD_lows adD_highs cB cI cL sD) sz) := by
  refine Met.ofW (cc := b_D_writeHeader) (maxL := 7) (ret := none) (by decide) rfl ?_
  intro p e s m args below meth c s₁ B hml hv
  obtain ⟨rfl, hsz, hP, zz, hD0⟩ := hv
  subst hsz
  have X := zx_of (F := 5) (L := 153) B hml (Nat.le_refl _) (Nat.le_refl _)
  have hD := hD0.self (sz := s.heap.size)
  have hA : ∀ q : Nat, s.heap.size ≤ q → va_A (zwT adT adT_bytes cB cI cL sT ++ zwD adD adD_parts adD_bytes adD_lows adD_highs cB cI cL sD) s.heap.size q := fun q h => Or.inr h
  have hl := lv_entry ([.ref adD, .ref adT, .int v2, .int v3, .int v4, .int v5, .int v6]) (n := 7) (Nat.le_of_ble_eq_true rfl)
  rw [lg_entry_eq]
  generalize (lg_sl ([.ref adD, .ref adT, .int v2, .int v3, .int v4, .int v5, .int v6]) ++ List.replicate (7 - (lg_sl ([.ref adD, .ref adT, .int v2, .int v3, .int v4, .int v5, .int v6])).length) Slot.unset).toArray = ls at hl ⊢
  exact k_D_writeHeader_0 X hA zz N sT sD v2 v3 v4 v5 v6 a c9 z9 0 0 c9 z9 hG (Nat.zero_add _) (Nat.zero_add _) (Nat.le_refl _) (Nat.le_refl _) adT adT_bytes adD adD_parts adD_bytes adD_lows adD_highs _ _ hP hD va_S.rf ls hl
noncomputable def g_D_writeShape_68 (N : Nat) (sT : zT) (sD : zD) : Option ((zT) × Nat × Nat) := some ((sT), 0, 0)
noncomputable def g_D_writeShape_c65 (N : Nat) (sD : zD) (sT_65 : zT) : Option ((zT) × Nat × Nat) := g_D_writeShape_68 N sT_65 sD
noncomputable def g_D_writeShape_51 (N : Nat) (sT : zT) (sD : zD) (v2 : Int32) : Option ((zT) × Nat × Nat) := if (v2 &&& (8 : Int32)) = (0 : Int32) then (g_D_writeShape_68 N sT sD) else (zcbd (g_T_writeNumber N sT ((zD_length sD).toInt64) (0 : Int32)) (fun a => g_D_writeShape_c65 N sD a))
noncomputable def g_D_writeShape_c48 (N : Nat) (sD : zD) (v2 : Int32) (sT_48 : zT) : Option ((zT) × Nat × Nat) := g_D_writeShape_51 N sT_48 sD v2
noncomputable def g_D_writeShape_34 (N : Nat) (sT : zT) (sD : zD) (v2 : Int32) : Option ((zT) × Nat × Nat) := if (v2 &&& (4 : Int32)) = (0 : Int32) then (g_D_writeShape_51 N sT sD v2) else (zg (vp_in (2 : Int32) 12) (zcbd (g_T_writeNumber N sT ((zD_parts sD) (2 : Int32).toNatClampNeg) (0 : Int32)) (fun a => g_D_writeShape_c48 N sD v2 a)))
noncomputable def g_D_writeShape_c31 (N : Nat) (sD : zD) (v2 : Int32) (sT_31 : zT) : Option ((zT) × Nat × Nat) := g_D_writeShape_34 N sT_31 sD v2
noncomputable def g_D_writeShape_17 (N : Nat) (sT : zT) (sD : zD) (v2 : Int32) : Option ((zT) × Nat × Nat) := if (v2 &&& (2 : Int32)) = (0 : Int32) then (g_D_writeShape_34 N sT sD v2) else (zg (vp_in (1 : Int32) 12) (zcbd (g_T_writeNumber N sT ((zD_parts sD) (1 : Int32).toNatClampNeg) (0 : Int32)) (fun a => g_D_writeShape_c31 N sD v2 a)))
noncomputable def g_D_writeShape_c14 (N : Nat) (sD : zD) (v2 : Int32) (sT_14 : zT) : Option ((zT) × Nat × Nat) := g_D_writeShape_17 N sT_14 sD v2
noncomputable def g_D_writeShape (N : Nat) (sT : zT) (sD : zD) (v2 : Int32) : Option ((zT) × Nat × Nat) := if (v2 &&& (1 : Int32)) = (0 : Int32) then (g_D_writeShape_17 N sT sD v2) else (zg (vp_in (0 : Int32) 12) (zcbd (g_T_writeNumber N sT ((zD_parts sD) (0 : Int32).toNatClampNeg) (0 : Int32)) (fun a => g_D_writeShape_c14 N sD v2 a)))
def q_D_writeShape (dC : Nat → ClassId) (dI : Nat → Nat → Nat) (cB cI cL : ClassId) (A : Nat → Prop) (adT : Nat) (adD : Nat) (adD_parts : Nat) (adD_bytes : Nat) (adD_lows : Nat) (adD_highs : Nat) (sD : zD) (a : zT) : Array Value → State → Outcome → State → Prop := va_Qv (fun (u : zT × Nat) => (u.1) = a) (fun u U => va_P (dC, dI) zcl (zwT adT u.2 cB cI cL u.1 ++ zwD adD adD_parts adD_bytes adD_lows adD_highs cB cI cL sD) U.heap ∧ va_D A (zwT adT u.2 cB cI cL u.1 ++ zwD adD adD_parts adD_bytes adD_lows adD_highs cB cI cL sD)) A
set_option maxRecDepth 100000 in
set_option maxHeartbeats 4000000 in
theorem k_D_writeShape_68 {p : Program} {l : Launch} {e : Env} {R : Room} {s : State} {m : MethodId} {args : Array Value} {below : List Frame} {meth : Method} {c : Code} {dC : Nat → ClassId} {dI : Nat → Nat → Nat} {cB cI cL : ClassId} {A : Nat → Prop} (X : zx p s m args meth c R R_D b_D_writeShape none 3 5 153) (hA : ∀ q, s.heap.size ≤ q → A q) (zz : zk dC dI cB cI cL A s)  (N : Nat) (sT : zT) (sD : zD) (a : zT) (c9 z9 cells slots tc tz : Nat) (hG : g_D_writeShape_68 N sT sD = some (a, c9, z9)) (kc : cells + c9 = tc) (kz : slots + z9 = tz) (hRc : tc ≤ R.cells) (hRz : tz ≤ R.slots) (adT adT_bytes adD adD_parts adD_bytes adD_lows adD_highs : Nat) (H : Heap) (locs : List Loc) (hP : va_P (dC, dI) zcl (zwT adT adT_bytes cB cI cL sT ++ zwD adD adD_parts adD_bytes adD_lows adD_highs cB cI cL sD) H) (hD : va_D A (zwT adT adT_bytes cB cI cL sT ++ zwD adD adD_parts adD_bytes adD_lows adD_highs cB cI cL sD)) (hS : va_S A s.heap H locs) (ls : Array Slot) (hl : lv_has ls 3 []) : W p l e R s m args below meth c H locs cells slots (MQ below (q_D_writeShape dC dI cB cI cL A adT adD adD_parts adD_bytes adD_lows adD_highs sD a) args s tc tz A) (F0 m 68 ls []) := by
  obtain ⟨hx, hb, hr, hml, hown, hts, hlocks, hRf, hRl⟩ := id X
  unfold g_D_writeShape_68 at hG
  obtain ⟨hG, e91, e92⟩ := zc0 hG
  refine W.widen (k := tc) (n := tz) (Nat.le.intro kc) (Nat.le.intro kz) ?_
  exact W.vret hx hb hr (fun t9 ht9 hW9 => ⟨⟨(sT, adT_bytes), rfl, hG, by rw [ht9]; exact hP, hD⟩, hS.F ht9⟩) hS.2.2 d_D_writeShape_68
set_option maxRecDepth 100000 in
set_option maxHeartbeats 4000000 in
theorem k_D_writeShape_51 {p : Program} {l : Launch} {e : Env} {R : Room} {s : State} {m : MethodId} {args : Array Value} {below : List Frame} {meth : Method} {c : Code} {dC : Nat → ClassId} {dI : Nat → Nat → Nat} {cB cI cL : ClassId} {A : Nat → Prop} (X : zx p s m args meth c R R_D b_D_writeShape none 3 5 153) (hA : ∀ q, s.heap.size ≤ q → A q) (zz : zk dC dI cB cI cL A s)  (N : Nat) (sT : zT) (sD : zD) (v2 : Int32) (a : zT) (c9 z9 cells slots tc tz : Nat) (hG : g_D_writeShape_51 N sT sD v2 = some (a, c9, z9)) (kc : cells + c9 = tc) (kz : slots + z9 = tz) (hRc : tc ≤ R.cells) (hRz : tz ≤ R.slots) (adT adT_bytes adD adD_parts adD_bytes adD_lows adD_highs : Nat) (H : Heap) (locs : List Loc) (hP : va_P (dC, dI) zcl (zwT adT adT_bytes cB cI cL sT ++ zwD adD adD_parts adD_bytes adD_lows adD_highs cB cI cL sD) H) (hD : va_D A (zwT adT adT_bytes cB cI cL sT ++ zwD adD adD_parts adD_bytes adD_lows adD_highs cB cI cL sD)) (hS : va_S A s.heap H locs) (ls : Array Slot) (hl : lv_has ls 3 [(0, .ref adD), (1, .ref adT), (2, .int v2)]) : W p l e R s m args below meth c H locs cells slots (MQ below (q_D_writeShape dC dI cB cI cL A adT adD adD_parts adD_bytes adD_lows adD_highs sD a) args s tc tz A) (F0 m 51 ls []) := by
  obtain ⟨hx, hb, hr, hml, hown, hts, hlocks, hRf, hRl⟩ := id X
  unfold g_D_writeShape_51 at hG
  refine lv_iload_n hx hb d_D_writeShape_51 rfl (lv_at hl 2 rfl) ?_
  refine lv_bipush (v := (8 : Int32)) hx hb d_D_writeShape_52 (by decide) ?_
  refine lv_iand hx hb d_D_writeShape_54 ?_
  refine lv_if_eq (tgt := 68) hx hb d_D_writeShape_55 (by decide) (fun hc => ?_) (fun hc => ?_)
  · have hG := zt hG hc
    exact k_D_writeShape_68 X hA zz N sT sD _ _ _ _ _ _ _ hG kc kz hRc hRz adT adT_bytes adD adD_parts adD_bytes adD_lows adD_highs _ _ hP hD hS _ (lv_sub hl [] rfl)
  · have hG := zf hG hc
    refine lv_aload_n hx hb d_D_writeShape_58 rfl (lv_at hl 1 rfl) ?_
    refine lv_aload_n hx hb d_D_writeShape_59 rfl (lv_at hl 0 rfl) ?_
    refine va_get (D := (dC, dI)) (ci := 6) (v := .int (zD_length sD)) (C := R_D) (T := F_D) (N := 6) hx hb hts zi_D hown zz.1 hP 2 rfl rfl 4 (by decide) (hts (.fieldLink R_D 31 "WireCodec$Draft" "length" "I") zin_D_31) (fun _ h9 => h9) rfl d_D_writeShape_60 ?_
    refine lv_i2l hx hb d_D_writeShape_63 rfl ?_
    refine lv_iconst (v := (0 : Int32)) hx hb d_D_writeShape_64 (by decide) ?_
    obtain ⟨a_65, c_65, z_65, c9, z9, hx_65, hG, kc, kz⟩ := zcbde hG kc kz
    have hr_65 := zrunV (p := p) (e := e) (below := below) (meth := meth) (As := [.long ((zD_length sD).toInt64), .int (0 : Int32)]) (rest := []) (st0 := [.int (0 : Int32), .long ((zD_length sD).toInt64), .ref adT]) (cells := cells) (slots := slots) X zz hP hD hS hA [0, 1] (by decide) rfl (c_T_writeNumber l dC dI cB cI cL H.size adT adT_bytes N sT ((zD_length sD).toInt64) (0 : Int32) _ _ _ hx_65) zy_T_writeNumber zv_T_writeNumber (hts (.methodLink R_D 85 y_T_writeNumber) zin_D_85) hl rfl rfl d_D_writeShape_65 (lv_room (Nat.le_of_ble_eq_true rfl)) rfl rfl ⟨Nat.le_trans (Nat.le_of_ble_eq_true rfl) hRf, Nat.le_trans (Nat.le_of_ble_eq_true rfl) hRl⟩ ⟨zle kc hRc, zle kz hRz⟩ 0 1 rfl rfl
    refine zcallv (wr := (zwD adD adD_parts adD_bytes adD_lows adD_highs cB cI cL sD)) hr_65 hP hD hS hA [0, 1] [2, 3, 4, 5, 6] rfl rfl (by decide) (by decide) (fun u_65 H locs hw_65 hP hD hS => ?_)
    obtain ⟨sT_65, qT_bytes_65⟩ := u_65
    subst hw_65
    have hP : va_P (dC, dI) zcl (zwD adD adD_parts adD_bytes adD_lows adD_highs cB cI cL sD ++ zwT adT qT_bytes_65 cB cI cL sT_65) H := hP
    have hD : va_D A (zwD adD adD_parts adD_bytes adD_lows adD_highs cB cI cL sD ++ zwT adT qT_bytes_65 cB cI cL sT_65) := hD
    have hG : g_D_writeShape_c65 N sD sT_65 = some (a, c9, z9) := hG
    unfold g_D_writeShape_c65 at hG
    generalize cells + c_65 = cells at kc ⊢
    generalize slots + z_65 = slots at kz ⊢
    exact k_D_writeShape_68 X hA zz N sT_65 sD _ _ _ _ _ _ _ hG kc kz hRc hRz adT qT_bytes_65 adD adD_parts adD_bytes adD_lows adD_highs _ _ (hP.sub [5, 6, 0, 1, 2, 3, 4] rfl) (hD.sub [5, 6, 0, 1, 2, 3, 4] (by decide) rfl) hS _ (lv_sub hl [] rfl)
set_option maxRecDepth 100000 in
set_option maxHeartbeats 4000000 in
theorem k_D_writeShape_34 {p : Program} {l : Launch} {e : Env} {R : Room} {s : State} {m : MethodId} {args : Array Value} {below : List Frame} {meth : Method} {c : Code} {dC : Nat → ClassId} {dI : Nat → Nat → Nat} {cB cI cL : ClassId} {A : Nat → Prop} (X : zx p s m args meth c R R_D b_D_writeShape none 3 5 153) (hA : ∀ q, s.heap.size ≤ q → A q) (zz : zk dC dI cB cI cL A s)  (N : Nat) (sT : zT) (sD : zD) (v2 : Int32) (a : zT) (c9 z9 cells slots tc tz : Nat) (hG : g_D_writeShape_34 N sT sD v2 = some (a, c9, z9)) (kc : cells + c9 = tc) (kz : slots + z9 = tz) (hRc : tc ≤ R.cells) (hRz : tz ≤ R.slots) (adT adT_bytes adD adD_parts adD_bytes adD_lows adD_highs : Nat) (H : Heap) (locs : List Loc) (hP : va_P (dC, dI) zcl (zwT adT adT_bytes cB cI cL sT ++ zwD adD adD_parts adD_bytes adD_lows adD_highs cB cI cL sD) H) (hD : va_D A (zwT adT adT_bytes cB cI cL sT ++ zwD adD adD_parts adD_bytes adD_lows adD_highs cB cI cL sD)) (hS : va_S A s.heap H locs) (ls : Array Slot) (hl : lv_has ls 3 [(0, .ref adD), (1, .ref adT), (2, .int v2)]) : W p l e R s m args below meth c H locs cells slots (MQ below (q_D_writeShape dC dI cB cI cL A adT adD adD_parts adD_bytes adD_lows adD_highs sD a) args s tc tz A) (F0 m 34 ls []) := by
  obtain ⟨hx, hb, hr, hml, hown, hts, hlocks, hRf, hRl⟩ := id X
  unfold g_D_writeShape_34 at hG
  refine lv_iload_n hx hb d_D_writeShape_34 rfl (lv_at hl 2 rfl) ?_
  refine lv_iconst (v := (4 : Int32)) hx hb d_D_writeShape_35 (by decide) ?_
  refine lv_iand hx hb d_D_writeShape_36 ?_
  refine lv_if_eq (tgt := 51) hx hb d_D_writeShape_37 (by decide) (fun hc => ?_) (fun hc => ?_)
  · have hG := zt hG hc
    exact k_D_writeShape_51 X hA zz N sT sD v2 _ _ _ _ _ _ _ hG kc kz hRc hRz adT adT_bytes adD adD_parts adD_bytes adD_lows adD_highs _ _ hP hD hS _ (lv_sub hl [0, 1, 2] rfl)
  · have hG := zf hG hc
    refine lv_aload_n hx hb d_D_writeShape_40 rfl (lv_at hl 1 rfl) ?_
    refine lv_aload_n hx hb d_D_writeShape_41 rfl (lv_at hl 0 rfl) ?_
    refine va_get (D := (dC, dI)) (ci := 6) (v := .ref adD_parts) (C := R_D) (T := F_D) (N := 6) hx hb hts zi_D hown zz.1 hP 2 rfl rfl 0 (by decide) (hts (.fieldLink R_D 9 "WireCodec$Draft" "parts" "[J") zin_D_9) (fun _ h9 => h9) rfl d_D_writeShape_42 ?_
    refine lv_iconst (v := (2 : Int32)) hx hb d_D_writeShape_45 (by decide) ?_
    obtain ⟨hin, hG⟩ := zgd hG
    refine va_lald hx hb zz.1 hP 3 2 rfl rfl hin d_D_writeShape_46 ?_
    refine lv_iconst (v := (0 : Int32)) hx hb d_D_writeShape_47 (by decide) ?_
    obtain ⟨a_48, c_48, z_48, c9, z9, hx_48, hG, kc, kz⟩ := zcbde hG kc kz
    have hr_48 := zrunV (p := p) (e := e) (below := below) (meth := meth) (As := [.long ((zD_parts sD) (2 : Int32).toNatClampNeg), .int (0 : Int32)]) (rest := []) (st0 := [.int (0 : Int32), .long ((zD_parts sD) (2 : Int32).toNatClampNeg), .ref adT]) (cells := cells) (slots := slots) X zz hP hD hS hA [0, 1] (by decide) rfl (c_T_writeNumber l dC dI cB cI cL H.size adT adT_bytes N sT ((zD_parts sD) (2 : Int32).toNatClampNeg) (0 : Int32) _ _ _ hx_48) zy_T_writeNumber zv_T_writeNumber (hts (.methodLink R_D 85 y_T_writeNumber) zin_D_85) hl rfl rfl d_D_writeShape_48 (lv_room (Nat.le_of_ble_eq_true rfl)) rfl rfl ⟨Nat.le_trans (Nat.le_of_ble_eq_true rfl) hRf, Nat.le_trans (Nat.le_of_ble_eq_true rfl) hRl⟩ ⟨zle kc hRc, zle kz hRz⟩ 0 1 rfl rfl
    refine zcallv (wr := (zwD adD adD_parts adD_bytes adD_lows adD_highs cB cI cL sD)) hr_48 hP hD hS hA [0, 1] [2, 3, 4, 5, 6] rfl rfl (by decide) (by decide) (fun u_48 H locs hw_48 hP hD hS => ?_)
    obtain ⟨sT_48, qT_bytes_48⟩ := u_48
    subst hw_48
    have hP : va_P (dC, dI) zcl (zwD adD adD_parts adD_bytes adD_lows adD_highs cB cI cL sD ++ zwT adT qT_bytes_48 cB cI cL sT_48) H := hP
    have hD : va_D A (zwD adD adD_parts adD_bytes adD_lows adD_highs cB cI cL sD ++ zwT adT qT_bytes_48 cB cI cL sT_48) := hD
    have hG : g_D_writeShape_c48 N sD v2 sT_48 = some (a, c9, z9) := hG
    unfold g_D_writeShape_c48 at hG
    generalize cells + c_48 = cells at kc ⊢
    generalize slots + z_48 = slots at kz ⊢
    exact k_D_writeShape_51 X hA zz N sT_48 sD v2 _ _ _ _ _ _ _ hG kc kz hRc hRz adT qT_bytes_48 adD adD_parts adD_bytes adD_lows adD_highs _ _ (hP.sub [5, 6, 0, 1, 2, 3, 4] rfl) (hD.sub [5, 6, 0, 1, 2, 3, 4] (by decide) rfl) hS _ (lv_sub hl [0, 1, 2] rfl)
set_option maxRecDepth 100000 in
set_option maxHeartbeats 4000000 in
theorem k_D_writeShape_17 {p : Program} {l : Launch} {e : Env} {R : Room} {s : State} {m : MethodId} {args : Array Value} {below : List Frame} {meth : Method} {c : Code} {dC : Nat → ClassId} {dI : Nat → Nat → Nat} {cB cI cL : ClassId} {A : Nat → Prop} (X : zx p s m args meth c R R_D b_D_writeShape none 3 5 153) (hA : ∀ q, s.heap.size ≤ q → A q) (zz : zk dC dI cB cI cL A s)  (N : Nat) (sT : zT) (sD : zD) (v2 : Int32) (a : zT) (c9 z9 cells slots tc tz : Nat) (hG : g_D_writeShape_17 N sT sD v2 = some (a, c9, z9)) (kc : cells + c9 = tc) (kz : slots + z9 = tz) (hRc : tc ≤ R.cells) (hRz : tz ≤ R.slots) (adT adT_bytes adD adD_parts adD_bytes adD_lows adD_highs : Nat) (H : Heap) (locs : List Loc) (hP : va_P (dC, dI) zcl (zwT adT adT_bytes cB cI cL sT ++ zwD adD adD_parts adD_bytes adD_lows adD_highs cB cI cL sD) H) (hD : va_D A (zwT adT adT_bytes cB cI cL sT ++ zwD adD adD_parts adD_bytes adD_lows adD_highs cB cI cL sD)) (hS : va_S A s.heap H locs) (ls : Array Slot) (hl : lv_has ls 3 [(0, .ref adD), (1, .ref adT), (2, .int v2)]) : W p l e R s m args below meth c H locs cells slots (MQ below (q_D_writeShape dC dI cB cI cL A adT adD adD_parts adD_bytes adD_lows adD_highs sD a) args s tc tz A) (F0 m 17 ls []) := by
  obtain ⟨hx, hb, hr, hml, hown, hts, hlocks, hRf, hRl⟩ := id X
  unfold g_D_writeShape_17 at hG
  refine lv_iload_n hx hb d_D_writeShape_17 rfl (lv_at hl 2 rfl) ?_
  refine lv_iconst (v := (2 : Int32)) hx hb d_D_writeShape_18 (by decide) ?_
  refine lv_iand hx hb d_D_writeShape_19 ?_
  refine lv_if_eq (tgt := 34) hx hb d_D_writeShape_20 (by decide) (fun hc => ?_) (fun hc => ?_)
  · have hG := zt hG hc
    exact k_D_writeShape_34 X hA zz N sT sD v2 _ _ _ _ _ _ _ hG kc kz hRc hRz adT adT_bytes adD adD_parts adD_bytes adD_lows adD_highs _ _ hP hD hS _ (lv_sub hl [0, 1, 2] rfl)
  · have hG := zf hG hc
    refine lv_aload_n hx hb d_D_writeShape_23 rfl (lv_at hl 1 rfl) ?_
    refine lv_aload_n hx hb d_D_writeShape_24 rfl (lv_at hl 0 rfl) ?_
    refine va_get (D := (dC, dI)) (ci := 6) (v := .ref adD_parts) (C := R_D) (T := F_D) (N := 6) hx hb hts zi_D hown zz.1 hP 2 rfl rfl 0 (by decide) (hts (.fieldLink R_D 9 "WireCodec$Draft" "parts" "[J") zin_D_9) (fun _ h9 => h9) rfl d_D_writeShape_25 ?_
    refine lv_iconst (v := (1 : Int32)) hx hb d_D_writeShape_28 (by decide) ?_
    obtain ⟨hin, hG⟩ := zgd hG
    refine va_lald hx hb zz.1 hP 3 2 rfl rfl hin d_D_writeShape_29 ?_
    refine lv_iconst (v := (0 : Int32)) hx hb d_D_writeShape_30 (by decide) ?_
    obtain ⟨a_31, c_31, z_31, c9, z9, hx_31, hG, kc, kz⟩ := zcbde hG kc kz
    have hr_31 := zrunV (p := p) (e := e) (below := below) (meth := meth) (As := [.long ((zD_parts sD) (1 : Int32).toNatClampNeg), .int (0 : Int32)]) (rest := []) (st0 := [.int (0 : Int32), .long ((zD_parts sD) (1 : Int32).toNatClampNeg), .ref adT]) (cells := cells) (slots := slots) X zz hP hD hS hA [0, 1] (by decide) rfl (c_T_writeNumber l dC dI cB cI cL H.size adT adT_bytes N sT ((zD_parts sD) (1 : Int32).toNatClampNeg) (0 : Int32) _ _ _ hx_31) zy_T_writeNumber zv_T_writeNumber (hts (.methodLink R_D 85 y_T_writeNumber) zin_D_85) hl rfl rfl d_D_writeShape_31 (lv_room (Nat.le_of_ble_eq_true rfl)) rfl rfl ⟨Nat.le_trans (Nat.le_of_ble_eq_true rfl) hRf, Nat.le_trans (Nat.le_of_ble_eq_true rfl) hRl⟩ ⟨zle kc hRc, zle kz hRz⟩ 0 1 rfl rfl
    refine zcallv (wr := (zwD adD adD_parts adD_bytes adD_lows adD_highs cB cI cL sD)) hr_31 hP hD hS hA [0, 1] [2, 3, 4, 5, 6] rfl rfl (by decide) (by decide) (fun u_31 H locs hw_31 hP hD hS => ?_)
    obtain ⟨sT_31, qT_bytes_31⟩ := u_31
    subst hw_31
    have hP : va_P (dC, dI) zcl (zwD adD adD_parts adD_bytes adD_lows adD_highs cB cI cL sD ++ zwT adT qT_bytes_31 cB cI cL sT_31) H := hP
    have hD : va_D A (zwD adD adD_parts adD_bytes adD_lows adD_highs cB cI cL sD ++ zwT adT qT_bytes_31 cB cI cL sT_31) := hD
    have hG : g_D_writeShape_c31 N sD v2 sT_31 = some (a, c9, z9) := hG
    unfold g_D_writeShape_c31 at hG
    generalize cells + c_31 = cells at kc ⊢
    generalize slots + z_31 = slots at kz ⊢
    exact k_D_writeShape_34 X hA zz N sT_31 sD v2 _ _ _ _ _ _ _ hG kc kz hRc hRz adT qT_bytes_31 adD adD_parts adD_bytes adD_lows adD_highs _ _ (hP.sub [5, 6, 0, 1, 2, 3, 4] rfl) (hD.sub [5, 6, 0, 1, 2, 3, 4] (by decide) rfl) hS _ (lv_sub hl [0, 1, 2] rfl)
set_option maxRecDepth 100000 in
set_option maxHeartbeats 4000000 in
theorem k_D_writeShape_0 {p : Program} {l : Launch} {e : Env} {R : Room} {s : State} {m : MethodId} {args : Array Value} {below : List Frame} {meth : Method} {c : Code} {dC : Nat → ClassId} {dI : Nat → Nat → Nat} {cB cI cL : ClassId} {A : Nat → Prop} (X : zx p s m args meth c R R_D b_D_writeShape none 3 5 153) (hA : ∀ q, s.heap.size ≤ q → A q) (zz : zk dC dI cB cI cL A s)  (N : Nat) (sT : zT) (sD : zD) (v2 : Int32) (a : zT) (c9 z9 cells slots tc tz : Nat) (hG : g_D_writeShape N sT sD v2 = some (a, c9, z9)) (kc : cells + c9 = tc) (kz : slots + z9 = tz) (hRc : tc ≤ R.cells) (hRz : tz ≤ R.slots) (adT adT_bytes adD adD_parts adD_bytes adD_lows adD_highs : Nat) (H : Heap) (locs : List Loc) (hP : va_P (dC, dI) zcl (zwT adT adT_bytes cB cI cL sT ++ zwD adD adD_parts adD_bytes adD_lows adD_highs cB cI cL sD) H) (hD : va_D A (zwT adT adT_bytes cB cI cL sT ++ zwD adD adD_parts adD_bytes adD_lows adD_highs cB cI cL sD)) (hS : va_S A s.heap H locs) (ls : Array Slot) (hl : lv_has ls 3 [(0, .ref adD), (1, .ref adT), (2, .int v2)]) : W p l e R s m args below meth c H locs cells slots (MQ below (q_D_writeShape dC dI cB cI cL A adT adD adD_parts adD_bytes adD_lows adD_highs sD a) args s tc tz A) (F0 m 0 ls []) := by
  obtain ⟨hx, hb, hr, hml, hown, hts, hlocks, hRf, hRl⟩ := id X
  unfold g_D_writeShape at hG
  refine lv_iload_n hx hb d_D_writeShape_0 rfl (lv_at hl 2 rfl) ?_
  refine lv_iconst (v := (1 : Int32)) hx hb d_D_writeShape_1 (by decide) ?_
  refine lv_iand hx hb d_D_writeShape_2 ?_
  refine lv_if_eq (tgt := 17) hx hb d_D_writeShape_3 (by decide) (fun hc => ?_) (fun hc => ?_)
  · have hG := zt hG hc
    exact k_D_writeShape_17 X hA zz N sT sD v2 _ _ _ _ _ _ _ hG kc kz hRc hRz adT adT_bytes adD adD_parts adD_bytes adD_lows adD_highs _ _ hP hD hS _ (lv_sub hl [0, 1, 2] rfl)
  · have hG := zf hG hc
    refine lv_aload_n hx hb d_D_writeShape_6 rfl (lv_at hl 1 rfl) ?_
    refine lv_aload_n hx hb d_D_writeShape_7 rfl (lv_at hl 0 rfl) ?_
    refine va_get (D := (dC, dI)) (ci := 6) (v := .ref adD_parts) (C := R_D) (T := F_D) (N := 6) hx hb hts zi_D hown zz.1 hP 2 rfl rfl 0 (by decide) (hts (.fieldLink R_D 9 "WireCodec$Draft" "parts" "[J") zin_D_9) (fun _ h9 => h9) rfl d_D_writeShape_8 ?_
    refine lv_iconst (v := (0 : Int32)) hx hb d_D_writeShape_11 (by decide) ?_
    obtain ⟨hin, hG⟩ := zgd hG
    refine va_lald hx hb zz.1 hP 3 2 rfl rfl hin d_D_writeShape_12 ?_
    refine lv_iconst (v := (0 : Int32)) hx hb d_D_writeShape_13 (by decide) ?_
    obtain ⟨a_14, c_14, z_14, c9, z9, hx_14, hG, kc, kz⟩ := zcbde hG kc kz
    have hr_14 := zrunV (p := p) (e := e) (below := below) (meth := meth) (As := [.long ((zD_parts sD) (0 : Int32).toNatClampNeg), .int (0 : Int32)]) (rest := []) (st0 := [.int (0 : Int32), .long ((zD_parts sD) (0 : Int32).toNatClampNeg), .ref adT]) (cells := cells) (slots := slots) X zz hP hD hS hA [0, 1] (by decide) rfl (c_T_writeNumber l dC dI cB cI cL H.size adT adT_bytes N sT ((zD_parts sD) (0 : Int32).toNatClampNeg) (0 : Int32) _ _ _ hx_14) zy_T_writeNumber zv_T_writeNumber (hts (.methodLink R_D 85 y_T_writeNumber) zin_D_85) hl rfl rfl d_D_writeShape_14 (lv_room (Nat.le_of_ble_eq_true rfl)) rfl rfl ⟨Nat.le_trans (Nat.le_of_ble_eq_true rfl) hRf, Nat.le_trans (Nat.le_of_ble_eq_true rfl) hRl⟩ ⟨zle kc hRc, zle kz hRz⟩ 0 1 rfl rfl
    refine zcallv (wr := (zwD adD adD_parts adD_bytes adD_lows adD_highs cB cI cL sD)) hr_14 hP hD hS hA [0, 1] [2, 3, 4, 5, 6] rfl rfl (by decide) (by decide) (fun u_14 H locs hw_14 hP hD hS => ?_)
    obtain ⟨sT_14, qT_bytes_14⟩ := u_14
    subst hw_14
    have hP : va_P (dC, dI) zcl (zwD adD adD_parts adD_bytes adD_lows adD_highs cB cI cL sD ++ zwT adT qT_bytes_14 cB cI cL sT_14) H := hP
    have hD : va_D A (zwD adD adD_parts adD_bytes adD_lows adD_highs cB cI cL sD ++ zwT adT qT_bytes_14 cB cI cL sT_14) := hD
    have hG : g_D_writeShape_c14 N sD v2 sT_14 = some (a, c9, z9) := hG
    unfold g_D_writeShape_c14 at hG
    generalize cells + c_14 = cells at kc ⊢
    generalize slots + z_14 = slots at kz ⊢
    exact k_D_writeShape_17 X hA zz N sT_14 sD v2 _ _ _ _ _ _ _ hG kc kz hRc hRz adT qT_bytes_14 adD adD_parts adD_bytes adD_lows adD_highs _ _ (hP.sub [5, 6, 0, 1, 2, 3, 4] rfl) (hD.sub [5, 6, 0, 1, 2, 3, 4] (by decide) rfl) hS _ (lv_sub hl [0, 1, 2] rfl)
set_option maxRecDepth 100000 in
set_option maxHeartbeats 4000000 in
theorem c_D_writeShape (l : Launch) (dC : Nat → ClassId) (dI : Nat → Nat → Nat) (cB cI cL : ClassId) (sz : Nat) (adT adT_bytes adD adD_parts adD_bytes adD_lows adD_highs : Nat) (N : Nat) (sT : zT) (sD : zD) (v2 : Int32) (a : zT) (c9 z9 : Nat) (hG : g_D_writeShape N sT sD v2 = some (a, c9, z9)) : Met l y_D_writeShape (zw y_D_writeShape b_D_writeShape 3 none) ({ frames := 5, cells := c9, slots := z9, locals := 153 }) (va_Pc [.ref adD, .ref adT, .int v2] (zpre dC dI cB cI cL sz (zwT adT adT_bytes cB cI cL sT ++ zwD adD adD_parts adD_bytes adD_lows adD_highs cB cI cL sD))) (q_D_writeShape dC dI cB cI cL (va_A (zwT adT adT_bytes cB cI cL sT ++ zwD adD adD_parts adD_bytes adD_lows adD_highs cB cI cL sD) sz) adT adD adD_parts adD_bytes adD_lows adD_highs sD a) c9 z9 (va_A (zwT adT adT_bytes cB cI cL sT ++ zwD adD adD_parts adD_bytes adD_lows adD_highs cB cI cL sD) sz) := by
  refine Met.ofW (cc := b_D_writeShape) (maxL := 3) (ret := none) (by decide) rfl ?_
  intro p e s m args below meth c s₁ B hml hv
  obtain ⟨rfl, hsz, hP, zz, hD0⟩ := hv
  subst hsz
  have X := zx_of (F := 5) (L := 153) B hml (Nat.le_refl _) (Nat.le_refl _)
  have hD := hD0.self (sz := s.heap.size)
  have hA : ∀ q : Nat, s.heap.size ≤ q → va_A (zwT adT adT_bytes cB cI cL sT ++ zwD adD adD_parts adD_bytes adD_lows adD_highs cB cI cL sD) s.heap.size q := fun q h => Or.inr h
  have hl := lv_entry ([.ref adD, .ref adT, .int v2]) (n := 3) (Nat.le_of_ble_eq_true rfl)
  rw [lg_entry_eq]
  generalize (lg_sl ([.ref adD, .ref adT, .int v2]) ++ List.replicate (3 - (lg_sl ([.ref adD, .ref adT, .int v2])).length) Slot.unset).toArray = ls at hl ⊢
  exact k_D_writeShape_0 X hA zz N sT sD v2 a c9 z9 0 0 c9 z9 hG (Nat.zero_add _) (Nat.zero_add _) (Nat.le_refl _) (Nat.le_refl _) adT adT_bytes adD adD_parts adD_bytes adD_lows adD_highs _ _ hP hD va_S.rf ls hl
noncomputable def g_D_writeAck_159 (N : Nat) (sT : zT) (sD : zD) : Option ((zT) × Nat × Nat) := some ((sT), 0, 0)
noncomputable def g_D_writeAck_c150 (kr : zT → zD → Int32 → Int32 → Option ((zT) × Nat × Nat)) (sD : zD) (v2 : Int32) (v3 : Int32) (sT_150 : zT) : Option ((zT) × Nat × Nat) := kr sT_150 sD v2 (v3 + 1)
noncomputable def g_D_writeAck_131_b (N : Nat) (kr : zT → zD → Int32 → Int32 → Option ((zT) × Nat × Nat)) (sT : zT) (sD : zD) (v2 : Int32) (v3 : Int32) : Option ((zT) × Nat × Nat) := if v2 = (3 : Int32) then (if (12 : Int32) ≤ v3 then (g_D_writeAck_159 N sT sD) else (zg (vp_in v3 12) (zcbd (g_T_writeNumber N sT ((zD_parts sD) v3.toNatClampNeg) (0 : Int32)) (fun a => g_D_writeAck_c150 kr sD v2 v3 a)))) else (g_D_writeAck_159 N sT sD)
noncomputable def g_D_writeAck_131 (N : Nat) : Nat → zT → zD → Int32 → Int32 → Option ((zT) × Nat × Nat)
  | 0 => fun _ _ _ _ => none
  | k + 1 => fun sT sD v2 v3 => g_D_writeAck_131_b N (g_D_writeAck_131 N k) sT sD v2 v3
noncomputable def g_D_writeAck_128 (N : Nat) (sT : zT) (sD : zD) (v2 : Int32) : Option ((zT) × Nat × Nat) := g_D_writeAck_131 N N sT sD v2 (9 : Int32)
noncomputable def g_D_writeAck_c119 (kr : zT → zD → Int32 → Int32 → Option ((zT) × Nat × Nat)) (sD : zD) (v2 : Int32) (v3 : Int32) (sT_119 : zT) : Option ((zT) × Nat × Nat) := kr sT_119 sD v2 (v3 + 1)
noncomputable def g_D_writeAck_c101 (N : Nat) (kr : zT → zD → Int32 → Int32 → Option ((zT) × Nat × Nat)) (sD : zD) (v2 : Int32) (v3 : Int32) (sT_101 : zT) : Option ((zT) × Nat × Nat) := zg (vp_in v3 500) (zg (vp_in v3 500) (zcbd (g_T_writeNumber N sT_101 (((zD_highs sD) v3.toNatClampNeg) - ((zD_lows sD) v3.toNatClampNeg)) (0 : Int32)) (fun a => g_D_writeAck_c119 kr sD v2 v3 a)))
noncomputable def g_D_writeAck_54_b (N : Nat) (kr : zT → zD → Int32 → Int32 → Option ((zT) × Nat × Nat)) (sT : zT) (sD : zD) (v2 : Int32) (v3 : Int32) : Option ((zT) × Nat × Nat) := if (zD_ranges sD) ≤ v3 then (g_D_writeAck_128 N sT sD v2) else (if (500 : Int32) ≤ v3 then (g_D_writeAck_128 N sT sD v2) else (if (500 : Int32) ≤ v3 then (g_D_writeAck_128 N sT sD v2) else (zg (vp_in (v3 - (1 : Int32)) 500) (zg (vp_in v3 500) (zcbd (g_T_writeNumber N sT ((((zD_lows sD) (v3 - (1 : Int32)).toNatClampNeg) - ((zD_highs sD) v3.toNatClampNeg)) - (2 : Int64)) (0 : Int32)) (fun a => g_D_writeAck_c101 N kr sD v2 v3 a))))))
noncomputable def g_D_writeAck_54 (N : Nat) : Nat → zT → zD → Int32 → Int32 → Option ((zT) × Nat × Nat)
  | 0 => fun _ _ _ _ => none
  | k + 1 => fun sT sD v2 v3 => g_D_writeAck_54_b N (g_D_writeAck_54 N k) sT sD v2 v3
noncomputable def g_D_writeAck_c49 (N : Nat) (sD : zD) (v2 : Int32) (sT_49 : zT) : Option ((zT) × Nat × Nat) := g_D_writeAck_54 N N sT_49 sD v2 (1 : Int32)
noncomputable def g_D_writeAck_c31 (N : Nat) (sD : zD) (v2 : Int32) (sT_31 : zT) : Option ((zT) × Nat × Nat) := zg (vp_in (0 : Int32) 500) (zg (vp_in (0 : Int32) 500) (zcbd (g_T_writeNumber N sT_31 (((zD_highs sD) (0 : Int32).toNatClampNeg) - ((zD_lows sD) (0 : Int32).toNatClampNeg)) (0 : Int32)) (fun a => g_D_writeAck_c49 N sD v2 a)))
noncomputable def g_D_writeAck_c19 (N : Nat) (sD : zD) (v2 : Int32) (sT_19 : zT) : Option ((zT) × Nat × Nat) := zcbd (g_T_writeNumber N sT_19 (((zD_ranges sD) - (1 : Int32)).toInt64) (0 : Int32)) (fun a => g_D_writeAck_c31 N sD v2 a)
noncomputable def g_D_writeAck_c8 (N : Nat) (sD : zD) (v2 : Int32) (sT_8 : zT) : Option ((zT) × Nat × Nat) := zg (vp_in (1 : Int32) 12) (zcbd (g_T_writeNumber N sT_8 ((zD_parts sD) (1 : Int32).toNatClampNeg) (0 : Int32)) (fun a => g_D_writeAck_c19 N sD v2 a))
noncomputable def g_D_writeAck (N : Nat) (sT : zT) (sD : zD) (v2 : Int32) : Option ((zT) × Nat × Nat) := zg (vp_in (0 : Int32) 500) (zcbd (g_T_writeNumber N sT ((zD_highs sD) (0 : Int32).toNatClampNeg) (0 : Int32)) (fun a => g_D_writeAck_c8 N sD v2 a))
def q_D_writeAck (dC : Nat → ClassId) (dI : Nat → Nat → Nat) (cB cI cL : ClassId) (A : Nat → Prop) (adT : Nat) (adD : Nat) (adD_parts : Nat) (adD_bytes : Nat) (adD_lows : Nat) (adD_highs : Nat) (sD : zD) (a : zT) : Array Value → State → Outcome → State → Prop := va_Qv (fun (u : zT × Nat) => (u.1) = a) (fun u U => va_P (dC, dI) zcl (zwT adT u.2 cB cI cL u.1 ++ zwD adD adD_parts adD_bytes adD_lows adD_highs cB cI cL sD) U.heap ∧ va_D A (zwT adT u.2 cB cI cL u.1 ++ zwD adD adD_parts adD_bytes adD_lows adD_highs cB cI cL sD)) A
set_option maxRecDepth 100000 in
set_option maxHeartbeats 4000000 in
theorem k_D_writeAck_159 {p : Program} {l : Launch} {e : Env} {R : Room} {s : State} {m : MethodId} {args : Array Value} {below : List Frame} {meth : Method} {c : Code} {dC : Nat → ClassId} {dI : Nat → Nat → Nat} {cB cI cL : ClassId} {A : Nat → Prop} (X : zx p s m args meth c R R_D b_D_writeAck none 4 5 153) (hA : ∀ q, s.heap.size ≤ q → A q) (zz : zk dC dI cB cI cL A s)  (N : Nat) (sT : zT) (sD : zD) (a : zT) (c9 z9 cells slots tc tz : Nat) (hG : g_D_writeAck_159 N sT sD = some (a, c9, z9)) (kc : cells + c9 = tc) (kz : slots + z9 = tz) (hRc : tc ≤ R.cells) (hRz : tz ≤ R.slots) (adT adT_bytes adD adD_parts adD_bytes adD_lows adD_highs : Nat) (H : Heap) (locs : List Loc) (hP : va_P (dC, dI) zcl (zwT adT adT_bytes cB cI cL sT ++ zwD adD adD_parts adD_bytes adD_lows adD_highs cB cI cL sD) H) (hD : va_D A (zwT adT adT_bytes cB cI cL sT ++ zwD adD adD_parts adD_bytes adD_lows adD_highs cB cI cL sD)) (hS : va_S A s.heap H locs) (ls : Array Slot) (hl : lv_has ls 4 []) : W p l e R s m args below meth c H locs cells slots (MQ below (q_D_writeAck dC dI cB cI cL A adT adD adD_parts adD_bytes adD_lows adD_highs sD a) args s tc tz A) (F0 m 159 ls []) := by
  obtain ⟨hx, hb, hr, hml, hown, hts, hlocks, hRf, hRl⟩ := id X
  unfold g_D_writeAck_159 at hG
  obtain ⟨hG, e91, e92⟩ := zc0 hG
  refine W.widen (k := tc) (n := tz) (Nat.le.intro kc) (Nat.le.intro kz) ?_
  exact W.vret hx hb hr (fun t9 ht9 hW9 => ⟨⟨(sT, adT_bytes), rfl, hG, by rw [ht9]; exact hP, hD⟩, hS.F ht9⟩) hS.2.2 d_D_writeAck_159
set_option maxRecDepth 100000 in
set_option maxHeartbeats 4000000 in
theorem k_D_writeAck_131_b {p : Program} {l : Launch} {e : Env} {R : Room} {s : State} {m : MethodId} {args : Array Value} {below : List Frame} {meth : Method} {c : Code} {dC : Nat → ClassId} {dI : Nat → Nat → Nat} {cB cI cL : ClassId} {A : Nat → Prop} (tc tz : Nat) (kr : zT → zD → Int32 → Int32 → Option ((zT) × Nat × Nat)) (hrec : ∀ (sT : zT) (sD : zD) (v2 : Int32) (v3 : Int32) (a : zT) (c9 z9 cells slots : Nat), kr sT sD v2 v3 = some (a, c9, z9) → cells + c9 = tc → slots + z9 = tz → ∀ (adT adT_bytes adD adD_parts adD_bytes adD_lows adD_highs : Nat) (H : Heap) (locs : List Loc), va_P (dC, dI) zcl (zwT adT adT_bytes cB cI cL sT ++ zwD adD adD_parts adD_bytes adD_lows adD_highs cB cI cL sD) H → va_D A (zwT adT adT_bytes cB cI cL sT ++ zwD adD adD_parts adD_bytes adD_lows adD_highs cB cI cL sD) → va_S A s.heap H locs → ∀ ls : Array Slot, lv_has ls 4 [(0, .ref adD), (1, .ref adT), (2, .int v2), (3, .int v3)] → W p l e R s m args below meth c H locs cells slots (MQ below (q_D_writeAck dC dI cB cI cL A adT adD adD_parts adD_bytes adD_lows adD_highs sD a) args s tc tz A) (F0 m 131 ls [])) (X : zx p s m args meth c R R_D b_D_writeAck none 4 5 153) (hA : ∀ q, s.heap.size ≤ q → A q) (zz : zk dC dI cB cI cL A s)  (N : Nat) (sT : zT) (sD : zD) (v2 : Int32) (v3 : Int32) (a : zT) (c9 z9 cells slots : Nat) (hG : g_D_writeAck_131_b N kr sT sD v2 v3 = some (a, c9, z9)) (kc : cells + c9 = tc) (kz : slots + z9 = tz) (hRc : tc ≤ R.cells) (hRz : tz ≤ R.slots) (adT adT_bytes adD adD_parts adD_bytes adD_lows adD_highs : Nat) (H : Heap) (locs : List Loc) (hP : va_P (dC, dI) zcl (zwT adT adT_bytes cB cI cL sT ++ zwD adD adD_parts adD_bytes adD_lows adD_highs cB cI cL sD) H) (hD : va_D A (zwT adT adT_bytes cB cI cL sT ++ zwD adD adD_parts adD_bytes adD_lows adD_highs cB cI cL sD)) (hS : va_S A s.heap H locs) (ls : Array Slot) (hl : lv_has ls 4 [(0, .ref adD), (1, .ref adT), (2, .int v2), (3, .int v3)]) : W p l e R s m args below meth c H locs cells slots (MQ below (q_D_writeAck dC dI cB cI cL A adT adD adD_parts adD_bytes adD_lows adD_highs sD a) args s tc tz A) (F0 m 131 ls []) := by
  obtain ⟨hx, hb, hr, hml, hown, hts, hlocks, hRf, hRl⟩ := id X
  unfold g_D_writeAck_131_b at hG
  refine lv_iload_n hx hb d_D_writeAck_131 rfl (lv_at hl 2 rfl) ?_
  refine lv_iconst (v := (3 : Int32)) hx hb d_D_writeAck_132 (by decide) ?_
  refine lv_icmp_ne (tgt := 159) hx hb d_D_writeAck_133 (by decide) (fun hc => ?_) (fun hc => ?_)
  · have hG := zf hG hc
    exact k_D_writeAck_159 X hA zz N sT sD _ _ _ _ _ _ _ hG kc kz hRc hRz adT adT_bytes adD adD_parts adD_bytes adD_lows adD_highs _ _ hP hD hS _ (lv_sub hl [] rfl)
  · have hG := zt hG hc
    refine lv_iload_n hx hb d_D_writeAck_136 rfl (lv_at hl 3 rfl) ?_
    refine lv_bipush (v := (12 : Int32)) hx hb d_D_writeAck_137 (by decide) ?_
    refine lv_icmp_ge (tgt := 159) hx hb d_D_writeAck_139 (by decide) (fun hc => ?_) (fun hc => ?_)
    · have hG := zt hG hc
      exact k_D_writeAck_159 X hA zz N sT sD _ _ _ _ _ _ _ hG kc kz hRc hRz adT adT_bytes adD adD_parts adD_bytes adD_lows adD_highs _ _ hP hD hS _ (lv_sub hl [] rfl)
    · have hG := zf hG hc
      refine lv_aload_n hx hb d_D_writeAck_142 rfl (lv_at hl 1 rfl) ?_
      refine lv_aload_n hx hb d_D_writeAck_143 rfl (lv_at hl 0 rfl) ?_
      refine va_get (D := (dC, dI)) (ci := 6) (v := .ref adD_parts) (C := R_D) (T := F_D) (N := 6) hx hb hts zi_D hown zz.1 hP 2 rfl rfl 0 (by decide) (hts (.fieldLink R_D 9 "WireCodec$Draft" "parts" "[J") zin_D_9) (fun _ h9 => h9) rfl d_D_writeAck_144 ?_
      refine lv_iload_n hx hb d_D_writeAck_147 rfl (lv_at hl 3 rfl) ?_
      obtain ⟨hin, hG⟩ := zgd hG
      refine va_lald hx hb zz.1 hP 3 2 rfl rfl hin d_D_writeAck_148 ?_
      refine lv_iconst (v := (0 : Int32)) hx hb d_D_writeAck_149 (by decide) ?_
      obtain ⟨a_150, c_150, z_150, c9, z9, hx_150, hG, kc, kz⟩ := zcbde hG kc kz
      have hr_150 := zrunV (p := p) (e := e) (below := below) (meth := meth) (As := [.long ((zD_parts sD) v3.toNatClampNeg), .int (0 : Int32)]) (rest := []) (st0 := [.int (0 : Int32), .long ((zD_parts sD) v3.toNatClampNeg), .ref adT]) (cells := cells) (slots := slots) X zz hP hD hS hA [0, 1] (by decide) rfl (c_T_writeNumber l dC dI cB cI cL H.size adT adT_bytes N sT ((zD_parts sD) v3.toNatClampNeg) (0 : Int32) _ _ _ hx_150) zy_T_writeNumber zv_T_writeNumber (hts (.methodLink R_D 85 y_T_writeNumber) zin_D_85) hl rfl rfl d_D_writeAck_150 (lv_room (Nat.le_of_ble_eq_true rfl)) rfl rfl ⟨Nat.le_trans (Nat.le_of_ble_eq_true rfl) hRf, Nat.le_trans (Nat.le_of_ble_eq_true rfl) hRl⟩ ⟨zle kc hRc, zle kz hRz⟩ 0 1 rfl rfl
      refine zcallv (wr := (zwD adD adD_parts adD_bytes adD_lows adD_highs cB cI cL sD)) hr_150 hP hD hS hA [0, 1] [2, 3, 4, 5, 6] rfl rfl (by decide) (by decide) (fun u_150 H locs hw_150 hP hD hS => ?_)
      obtain ⟨sT_150, qT_bytes_150⟩ := u_150
      subst hw_150
      have hP : va_P (dC, dI) zcl (zwD adD adD_parts adD_bytes adD_lows adD_highs cB cI cL sD ++ zwT adT qT_bytes_150 cB cI cL sT_150) H := hP
      have hD : va_D A (zwD adD adD_parts adD_bytes adD_lows adD_highs cB cI cL sD ++ zwT adT qT_bytes_150 cB cI cL sT_150) := hD
      have hG : g_D_writeAck_c150 kr sD v2 v3 sT_150 = some (a, c9, z9) := hG
      unfold g_D_writeAck_c150 at hG
      generalize cells + c_150 = cells at kc ⊢
      generalize slots + z_150 = slots at kz ⊢
      refine lv_iinc (v := v3 + 1) (lv' := [(3, .int (v3 + 1)), (0, .ref adD), (1, .ref adT), (2, .int v2)]) hx hb d_D_writeAck_153 hl (k := 3) rfl rfl (by decide) rfl (fun ls hl => ?_)
      refine lv_goto (tgt := 131) hx hb d_D_writeAck_156 (by decide) ?_
      exact hrec sT_150 sD v2 (v3 + 1) _ _ _ _ _ hG kc kz adT qT_bytes_150 adD adD_parts adD_bytes adD_lows adD_highs _ _ (hP.sub [5, 6, 0, 1, 2, 3, 4] rfl) (hD.sub [5, 6, 0, 1, 2, 3, 4] (by decide) rfl) hS _ (lv_sub hl [1, 2, 3, 0] rfl)
theorem k_D_writeAck_131 {p : Program} {l : Launch} {e : Env} {R : Room} {s : State} {m : MethodId} {args : Array Value} {below : List Frame} {meth : Method} {c : Code} {dC : Nat → ClassId} {dI : Nat → Nat → Nat} {cB cI cL : ClassId} {A : Nat → Prop} (X : zx p s m args meth c R R_D b_D_writeAck none 4 5 153) (hA : ∀ q, s.heap.size ≤ q → A q) (zz : zk dC dI cB cI cL A s)  (N : Nat) (tc tz : Nat) (hRc : tc ≤ R.cells) (hRz : tz ≤ R.slots) : ∀ (k : Nat) (sT : zT) (sD : zD) (v2 : Int32) (v3 : Int32) (a : zT) (c9 z9 cells slots : Nat) (hG : g_D_writeAck_131 N k sT sD v2 v3 = some (a, c9, z9)) (kc : cells + c9 = tc) (kz : slots + z9 = tz) (adT adT_bytes adD adD_parts adD_bytes adD_lows adD_highs : Nat) (H : Heap) (locs : List Loc) (hP : va_P (dC, dI) zcl (zwT adT adT_bytes cB cI cL sT ++ zwD adD adD_parts adD_bytes adD_lows adD_highs cB cI cL sD) H) (hD : va_D A (zwT adT adT_bytes cB cI cL sT ++ zwD adD adD_parts adD_bytes adD_lows adD_highs cB cI cL sD)) (hS : va_S A s.heap H locs) (ls : Array Slot) (hl : lv_has ls 4 [(0, .ref adD), (1, .ref adT), (2, .int v2), (3, .int v3)]), W p l e R s m args below meth c H locs cells slots (MQ below (q_D_writeAck dC dI cB cI cL A adT adD adD_parts adD_bytes adD_lows adD_highs sD a) args s tc tz A) (F0 m 131 ls []) := by
  intro k
  induction k with
  | zero => intro sT sD v2 v3 a c9 z9 cells slots hG; exact absurd hG (by unfold g_D_writeAck_131; simp)
  | succ k ih => intro sT sD v2 v3 a c9 z9 cells slots hG kc kz adT adT_bytes adD adD_parts adD_bytes adD_lows adD_highs H locs hP hD hS ls hl; exact k_D_writeAck_131_b tc tz _ ih X hA zz N sT sD v2 v3 a c9 z9 cells slots hG kc kz hRc hRz adT adT_bytes adD adD_parts adD_bytes adD_lows adD_highs H locs hP hD hS ls hl
set_option maxRecDepth 100000 in
set_option maxHeartbeats 4000000 in
theorem k_D_writeAck_128 {p : Program} {l : Launch} {e : Env} {R : Room} {s : State} {m : MethodId} {args : Array Value} {below : List Frame} {meth : Method} {c : Code} {dC : Nat → ClassId} {dI : Nat → Nat → Nat} {cB cI cL : ClassId} {A : Nat → Prop} (X : zx p s m args meth c R R_D b_D_writeAck none 4 5 153) (hA : ∀ q, s.heap.size ≤ q → A q) (zz : zk dC dI cB cI cL A s)  (N : Nat) (sT : zT) (sD : zD) (v2 : Int32) (a : zT) (c9 z9 cells slots tc tz : Nat) (hG : g_D_writeAck_128 N sT sD v2 = some (a, c9, z9)) (kc : cells + c9 = tc) (kz : slots + z9 = tz) (hRc : tc ≤ R.cells) (hRz : tz ≤ R.slots) (adT adT_bytes adD adD_parts adD_bytes adD_lows adD_highs : Nat) (H : Heap) (locs : List Loc) (hP : va_P (dC, dI) zcl (zwT adT adT_bytes cB cI cL sT ++ zwD adD adD_parts adD_bytes adD_lows adD_highs cB cI cL sD) H) (hD : va_D A (zwT adT adT_bytes cB cI cL sT ++ zwD adD adD_parts adD_bytes adD_lows adD_highs cB cI cL sD)) (hS : va_S A s.heap H locs) (ls : Array Slot) (hl : lv_has ls 4 [(0, .ref adD), (1, .ref adT), (2, .int v2)]) : W p l e R s m args below meth c H locs cells slots (MQ below (q_D_writeAck dC dI cB cI cL A adT adD adD_parts adD_bytes adD_lows adD_highs sD a) args s tc tz A) (F0 m 128 ls []) := by
  obtain ⟨hx, hb, hr, hml, hown, hts, hlocks, hRf, hRl⟩ := id X
  unfold g_D_writeAck_128 at hG
  refine lv_bipush (v := (9 : Int32)) hx hb d_D_writeAck_128 (by decide) ?_
  refine lv_istore_n (lv' := [(3, .int (9 : Int32)), (0, .ref adD), (1, .ref adT), (2, .int v2)]) hx hb d_D_writeAck_130 rfl hl (by decide) rfl (fun ls hl => ?_)
  exact k_D_writeAck_131 X hA zz N _ _ hRc hRz N sT sD v2 (9 : Int32) _ _ _ _ _ hG kc kz adT adT_bytes adD adD_parts adD_bytes adD_lows adD_highs _ _ hP hD hS _ (lv_sub hl [1, 2, 3, 0] rfl)
set_option maxRecDepth 100000 in
set_option maxHeartbeats 4000000 in
theorem k_D_writeAck_54_b {p : Program} {l : Launch} {e : Env} {R : Room} {s : State} {m : MethodId} {args : Array Value} {below : List Frame} {meth : Method} {c : Code} {dC : Nat → ClassId} {dI : Nat → Nat → Nat} {cB cI cL : ClassId} {A : Nat → Prop} (tc tz : Nat) (kr : zT → zD → Int32 → Int32 → Option ((zT) × Nat × Nat)) (hrec : ∀ (sT : zT) (sD : zD) (v2 : Int32) (v3 : Int32) (a : zT) (c9 z9 cells slots : Nat), kr sT sD v2 v3 = some (a, c9, z9) → cells + c9 = tc → slots + z9 = tz → ∀ (adT adT_bytes adD adD_parts adD_bytes adD_lows adD_highs : Nat) (H : Heap) (locs : List Loc), va_P (dC, dI) zcl (zwT adT adT_bytes cB cI cL sT ++ zwD adD adD_parts adD_bytes adD_lows adD_highs cB cI cL sD) H → va_D A (zwT adT adT_bytes cB cI cL sT ++ zwD adD adD_parts adD_bytes adD_lows adD_highs cB cI cL sD) → va_S A s.heap H locs → ∀ ls : Array Slot, lv_has ls 4 [(0, .ref adD), (1, .ref adT), (2, .int v2), (3, .int v3)] → W p l e R s m args below meth c H locs cells slots (MQ below (q_D_writeAck dC dI cB cI cL A adT adD adD_parts adD_bytes adD_lows adD_highs sD a) args s tc tz A) (F0 m 54 ls [])) (X : zx p s m args meth c R R_D b_D_writeAck none 4 5 153) (hA : ∀ q, s.heap.size ≤ q → A q) (zz : zk dC dI cB cI cL A s)  (N : Nat) (sT : zT) (sD : zD) (v2 : Int32) (v3 : Int32) (a : zT) (c9 z9 cells slots : Nat) (hG : g_D_writeAck_54_b N kr sT sD v2 v3 = some (a, c9, z9)) (kc : cells + c9 = tc) (kz : slots + z9 = tz) (hRc : tc ≤ R.cells) (hRz : tz ≤ R.slots) (adT adT_bytes adD adD_parts adD_bytes adD_lows adD_highs : Nat) (H : Heap) (locs : List Loc) (hP : va_P (dC, dI) zcl (zwT adT adT_bytes cB cI cL sT ++ zwD adD adD_parts adD_bytes adD_lows adD_highs cB cI cL sD) H) (hD : va_D A (zwT adT adT_bytes cB cI cL sT ++ zwD adD adD_parts adD_bytes adD_lows adD_highs cB cI cL sD)) (hS : va_S A s.heap H locs) (ls : Array Slot) (hl : lv_has ls 4 [(0, .ref adD), (1, .ref adT), (2, .int v2), (3, .int v3)]) : W p l e R s m args below meth c H locs cells slots (MQ below (q_D_writeAck dC dI cB cI cL A adT adD adD_parts adD_bytes adD_lows adD_highs sD a) args s tc tz A) (F0 m 54 ls []) := by
  obtain ⟨hx, hb, hr, hml, hown, hts, hlocks, hRf, hRl⟩ := id X
  unfold g_D_writeAck_54_b at hG
  refine lv_iload_n hx hb d_D_writeAck_54 rfl (lv_at hl 3 rfl) ?_
  refine lv_aload_n hx hb d_D_writeAck_55 rfl (lv_at hl 0 rfl) ?_
  refine va_get (D := (dC, dI)) (ci := 6) (v := .int (zD_ranges sD)) (C := R_D) (T := F_D) (N := 6) hx hb hts zi_D hown zz.1 hP 2 rfl rfl 5 (by decide) (hts (.fieldLink R_D 35 "WireCodec$Draft" "ranges" "I") zin_D_35) (fun _ h9 => h9) rfl d_D_writeAck_56 ?_
  refine lv_icmp_ge (tgt := 128) hx hb d_D_writeAck_59 (by decide) (fun hc => ?_) (fun hc => ?_)
  · have hG := zt hG hc
    exact k_D_writeAck_128 X hA zz N sT sD v2 _ _ _ _ _ _ _ hG kc kz hRc hRz adT adT_bytes adD adD_parts adD_bytes adD_lows adD_highs _ _ hP hD hS _ (lv_sub hl [0, 1, 2] rfl)
  · have hG := zf hG hc
    refine lv_iload_n hx hb d_D_writeAck_62 rfl (lv_at hl 3 rfl) ?_
    refine lv_aload_n hx hb d_D_writeAck_63 rfl (lv_at hl 0 rfl) ?_
    refine va_get (D := (dC, dI)) (ci := 6) (v := .ref adD_lows) (C := R_D) (T := F_D) (N := 6) hx hb hts zi_D hown zz.1 hP 2 rfl rfl 2 (by decide) (hts (.fieldLink R_D 19 "WireCodec$Draft" "lows" "[J") zin_D_19) (fun _ h9 => h9) rfl d_D_writeAck_64 ?_
    refine va_alen (v := (500 : Int32)) hx hb zz.1 hP 5 2 rfl rfl rfl d_D_writeAck_67 ?_
    refine lv_icmp_ge (tgt := 128) hx hb d_D_writeAck_68 (by decide) (fun hc => ?_) (fun hc => ?_)
    · have hG := zt hG hc
      exact k_D_writeAck_128 X hA zz N sT sD v2 _ _ _ _ _ _ _ hG kc kz hRc hRz adT adT_bytes adD adD_parts adD_bytes adD_lows adD_highs _ _ hP hD hS _ (lv_sub hl [0, 1, 2] rfl)
    · have hG := zf hG hc
      refine lv_iload_n hx hb d_D_writeAck_71 rfl (lv_at hl 3 rfl) ?_
      refine lv_aload_n hx hb d_D_writeAck_72 rfl (lv_at hl 0 rfl) ?_
      refine va_get (D := (dC, dI)) (ci := 6) (v := .ref adD_highs) (C := R_D) (T := F_D) (N := 6) hx hb hts zi_D hown zz.1 hP 2 rfl rfl 3 (by decide) (hts (.fieldLink R_D 22 "WireCodec$Draft" "highs" "[J") zin_D_22) (fun _ h9 => h9) rfl d_D_writeAck_73 ?_
      refine va_alen (v := (500 : Int32)) hx hb zz.1 hP 6 2 rfl rfl rfl d_D_writeAck_76 ?_
      refine lv_icmp_ge (tgt := 128) hx hb d_D_writeAck_77 (by decide) (fun hc => ?_) (fun hc => ?_)
      · have hG := zt hG hc
        exact k_D_writeAck_128 X hA zz N sT sD v2 _ _ _ _ _ _ _ hG kc kz hRc hRz adT adT_bytes adD adD_parts adD_bytes adD_lows adD_highs _ _ hP hD hS _ (lv_sub hl [0, 1, 2] rfl)
      · have hG := zf hG hc
        refine lv_aload_n hx hb d_D_writeAck_80 rfl (lv_at hl 1 rfl) ?_
        refine lv_aload_n hx hb d_D_writeAck_81 rfl (lv_at hl 0 rfl) ?_
        refine va_get (D := (dC, dI)) (ci := 6) (v := .ref adD_lows) (C := R_D) (T := F_D) (N := 6) hx hb hts zi_D hown zz.1 hP 2 rfl rfl 2 (by decide) (hts (.fieldLink R_D 19 "WireCodec$Draft" "lows" "[J") zin_D_19) (fun _ h9 => h9) rfl d_D_writeAck_82 ?_
        refine lv_iload_n hx hb d_D_writeAck_85 rfl (lv_at hl 3 rfl) ?_
        refine lv_iconst (v := (1 : Int32)) hx hb d_D_writeAck_86 (by decide) ?_
        refine lv_isub hx hb d_D_writeAck_87 ?_
        obtain ⟨hin, hG⟩ := zgd hG
        refine va_lald hx hb zz.1 hP 5 2 rfl rfl hin d_D_writeAck_88 ?_
        refine lv_aload_n hx hb d_D_writeAck_89 rfl (lv_at hl 0 rfl) ?_
        refine va_get (D := (dC, dI)) (ci := 6) (v := .ref adD_highs) (C := R_D) (T := F_D) (N := 6) hx hb hts zi_D hown zz.1 hP 2 rfl rfl 3 (by decide) (hts (.fieldLink R_D 22 "WireCodec$Draft" "highs" "[J") zin_D_22) (fun _ h9 => h9) rfl d_D_writeAck_90 ?_
        refine lv_iload_n hx hb d_D_writeAck_93 rfl (lv_at hl 3 rfl) ?_
        obtain ⟨hin, hG⟩ := zgd hG
        refine va_lald hx hb zz.1 hP 6 2 rfl rfl hin d_D_writeAck_94 ?_
        refine lv_lsub hx hb d_D_writeAck_95 ?_
        refine lv_ldc2 (v := (2 : Int64)) hx hb hown (hts (.constantLong R_D 38 (2 : Int64)) zin_D_38) d_D_writeAck_96 ?_
        refine lv_lsub hx hb d_D_writeAck_99 ?_
        refine lv_iconst (v := (0 : Int32)) hx hb d_D_writeAck_100 (by decide) ?_
        obtain ⟨a_101, c_101, z_101, c9, z9, hx_101, hG, kc, kz⟩ := zcbde hG kc kz
        have hr_101 := zrunV (p := p) (e := e) (below := below) (meth := meth) (As := [.long ((((zD_lows sD) (v3 - (1 : Int32)).toNatClampNeg) - ((zD_highs sD) v3.toNatClampNeg)) - (2 : Int64)), .int (0 : Int32)]) (rest := []) (st0 := [.int (0 : Int32), .long ((((zD_lows sD) (v3 - (1 : Int32)).toNatClampNeg) - ((zD_highs sD) v3.toNatClampNeg)) - (2 : Int64)), .ref adT]) (cells := cells) (slots := slots) X zz hP hD hS hA [0, 1] (by decide) rfl (c_T_writeNumber l dC dI cB cI cL H.size adT adT_bytes N sT ((((zD_lows sD) (v3 - (1 : Int32)).toNatClampNeg) - ((zD_highs sD) v3.toNatClampNeg)) - (2 : Int64)) (0 : Int32) _ _ _ hx_101) zy_T_writeNumber zv_T_writeNumber (hts (.methodLink R_D 85 y_T_writeNumber) zin_D_85) hl rfl rfl d_D_writeAck_101 (lv_room (Nat.le_of_ble_eq_true rfl)) rfl rfl ⟨Nat.le_trans (Nat.le_of_ble_eq_true rfl) hRf, Nat.le_trans (Nat.le_of_ble_eq_true rfl) hRl⟩ ⟨zle kc hRc, zle kz hRz⟩ 0 1 rfl rfl
        refine zcallv (wr := (zwD adD adD_parts adD_bytes adD_lows adD_highs cB cI cL sD)) hr_101 hP hD hS hA [0, 1] [2, 3, 4, 5, 6] rfl rfl (by decide) (by decide) (fun u_101 H locs hw_101 hP hD hS => ?_)
        obtain ⟨sT_101, qT_bytes_101⟩ := u_101
        subst hw_101
        have hP : va_P (dC, dI) zcl (zwD adD adD_parts adD_bytes adD_lows adD_highs cB cI cL sD ++ zwT adT qT_bytes_101 cB cI cL sT_101) H := hP
        have hD : va_D A (zwD adD adD_parts adD_bytes adD_lows adD_highs cB cI cL sD ++ zwT adT qT_bytes_101 cB cI cL sT_101) := hD
        have hG : g_D_writeAck_c101 N kr sD v2 v3 sT_101 = some (a, c9, z9) := hG
        unfold g_D_writeAck_c101 at hG
        generalize cells + c_101 = cells at kc ⊢
        generalize slots + z_101 = slots at kz ⊢
        refine lv_aload_n hx hb d_D_writeAck_104 rfl (lv_at hl 1 rfl) ?_
        refine lv_aload_n hx hb d_D_writeAck_105 rfl (lv_at hl 0 rfl) ?_
        refine va_get (D := (dC, dI)) (ci := 6) (v := .ref adD_highs) (C := R_D) (T := F_D) (N := 6) hx hb hts zi_D hown zz.1 hP 0 rfl rfl 3 (by decide) (hts (.fieldLink R_D 22 "WireCodec$Draft" "highs" "[J") zin_D_22) (fun _ h9 => h9) rfl d_D_writeAck_106 ?_
        refine lv_iload_n hx hb d_D_writeAck_109 rfl (lv_at hl 3 rfl) ?_
        obtain ⟨hin, hG⟩ := zgd hG
        refine va_lald hx hb zz.1 hP 4 2 rfl rfl hin d_D_writeAck_110 ?_
        refine lv_aload_n hx hb d_D_writeAck_111 rfl (lv_at hl 0 rfl) ?_
        refine va_get (D := (dC, dI)) (ci := 6) (v := .ref adD_lows) (C := R_D) (T := F_D) (N := 6) hx hb hts zi_D hown zz.1 hP 0 rfl rfl 2 (by decide) (hts (.fieldLink R_D 19 "WireCodec$Draft" "lows" "[J") zin_D_19) (fun _ h9 => h9) rfl d_D_writeAck_112 ?_
        refine lv_iload_n hx hb d_D_writeAck_115 rfl (lv_at hl 3 rfl) ?_
        obtain ⟨hin, hG⟩ := zgd hG
        refine va_lald hx hb zz.1 hP 3 2 rfl rfl hin d_D_writeAck_116 ?_
        refine lv_lsub hx hb d_D_writeAck_117 ?_
        refine lv_iconst (v := (0 : Int32)) hx hb d_D_writeAck_118 (by decide) ?_
        obtain ⟨a_119, c_119, z_119, c9, z9, hx_119, hG, kc, kz⟩ := zcbde hG kc kz
        have hr_119 := zrunV (p := p) (e := e) (below := below) (meth := meth) (As := [.long (((zD_highs sD) v3.toNatClampNeg) - ((zD_lows sD) v3.toNatClampNeg)), .int (0 : Int32)]) (rest := []) (st0 := [.int (0 : Int32), .long (((zD_highs sD) v3.toNatClampNeg) - ((zD_lows sD) v3.toNatClampNeg)), .ref adT]) (cells := cells) (slots := slots) X zz hP hD hS hA [5, 6] (by decide) rfl (c_T_writeNumber l dC dI cB cI cL H.size adT qT_bytes_101 N sT_101 (((zD_highs sD) v3.toNatClampNeg) - ((zD_lows sD) v3.toNatClampNeg)) (0 : Int32) _ _ _ hx_119) zy_T_writeNumber zv_T_writeNumber (hts (.methodLink R_D 85 y_T_writeNumber) zin_D_85) hl rfl rfl d_D_writeAck_119 (lv_room (Nat.le_of_ble_eq_true rfl)) rfl rfl ⟨Nat.le_trans (Nat.le_of_ble_eq_true rfl) hRf, Nat.le_trans (Nat.le_of_ble_eq_true rfl) hRl⟩ ⟨zle kc hRc, zle kz hRz⟩ 0 1 rfl rfl
        refine zcallv (wr := (zwD adD adD_parts adD_bytes adD_lows adD_highs cB cI cL sD)) hr_119 hP hD hS hA [5, 6] [0, 1, 2, 3, 4] rfl rfl (by decide) (by decide) (fun u_119 H locs hw_119 hP hD hS => ?_)
        obtain ⟨sT_119, qT_bytes_119⟩ := u_119
        subst hw_119
        have hP : va_P (dC, dI) zcl (zwD adD adD_parts adD_bytes adD_lows adD_highs cB cI cL sD ++ zwT adT qT_bytes_119 cB cI cL sT_119) H := hP
        have hD : va_D A (zwD adD adD_parts adD_bytes adD_lows adD_highs cB cI cL sD ++ zwT adT qT_bytes_119 cB cI cL sT_119) := hD
        have hG : g_D_writeAck_c119 kr sD v2 v3 sT_119 = some (a, c9, z9) := hG
        unfold g_D_writeAck_c119 at hG
        generalize cells + c_119 = cells at kc ⊢
        generalize slots + z_119 = slots at kz ⊢
        refine lv_iinc (v := v3 + 1) (lv' := [(3, .int (v3 + 1)), (0, .ref adD), (1, .ref adT), (2, .int v2)]) hx hb d_D_writeAck_122 hl (k := 3) rfl rfl (by decide) rfl (fun ls hl => ?_)
        refine lv_goto (tgt := 54) hx hb d_D_writeAck_125 (by decide) ?_
        exact hrec sT_119 sD v2 (v3 + 1) _ _ _ _ _ hG kc kz adT qT_bytes_119 adD adD_parts adD_bytes adD_lows adD_highs _ _ (hP.sub [5, 6, 0, 1, 2, 3, 4] rfl) (hD.sub [5, 6, 0, 1, 2, 3, 4] (by decide) rfl) hS _ (lv_sub hl [1, 2, 3, 0] rfl)
theorem k_D_writeAck_54 {p : Program} {l : Launch} {e : Env} {R : Room} {s : State} {m : MethodId} {args : Array Value} {below : List Frame} {meth : Method} {c : Code} {dC : Nat → ClassId} {dI : Nat → Nat → Nat} {cB cI cL : ClassId} {A : Nat → Prop} (X : zx p s m args meth c R R_D b_D_writeAck none 4 5 153) (hA : ∀ q, s.heap.size ≤ q → A q) (zz : zk dC dI cB cI cL A s)  (N : Nat) (tc tz : Nat) (hRc : tc ≤ R.cells) (hRz : tz ≤ R.slots) : ∀ (k : Nat) (sT : zT) (sD : zD) (v2 : Int32) (v3 : Int32) (a : zT) (c9 z9 cells slots : Nat) (hG : g_D_writeAck_54 N k sT sD v2 v3 = some (a, c9, z9)) (kc : cells + c9 = tc) (kz : slots + z9 = tz) (adT adT_bytes adD adD_parts adD_bytes adD_lows adD_highs : Nat) (H : Heap) (locs : List Loc) (hP : va_P (dC, dI) zcl (zwT adT adT_bytes cB cI cL sT ++ zwD adD adD_parts adD_bytes adD_lows adD_highs cB cI cL sD) H) (hD : va_D A (zwT adT adT_bytes cB cI cL sT ++ zwD adD adD_parts adD_bytes adD_lows adD_highs cB cI cL sD)) (hS : va_S A s.heap H locs) (ls : Array Slot) (hl : lv_has ls 4 [(0, .ref adD), (1, .ref adT), (2, .int v2), (3, .int v3)]), W p l e R s m args below meth c H locs cells slots (MQ below (q_D_writeAck dC dI cB cI cL A adT adD adD_parts adD_bytes adD_lows adD_highs sD a) args s tc tz A) (F0 m 54 ls []) := by
  intro k
  induction k with
  | zero => intro sT sD v2 v3 a c9 z9 cells slots hG; exact absurd hG (by unfold g_D_writeAck_54; simp)
  | succ k ih => intro sT sD v2 v3 a c9 z9 cells slots hG kc kz adT adT_bytes adD adD_parts adD_bytes adD_lows adD_highs H locs hP hD hS ls hl; exact k_D_writeAck_54_b tc tz _ ih X hA zz N sT sD v2 v3 a c9 z9 cells slots hG kc kz hRc hRz adT adT_bytes adD adD_parts adD_bytes adD_lows adD_highs H locs hP hD hS ls hl
set_option maxRecDepth 100000 in
set_option maxHeartbeats 4000000 in
theorem k_D_writeAck_0 {p : Program} {l : Launch} {e : Env} {R : Room} {s : State} {m : MethodId} {args : Array Value} {below : List Frame} {meth : Method} {c : Code} {dC : Nat → ClassId} {dI : Nat → Nat → Nat} {cB cI cL : ClassId} {A : Nat → Prop} (X : zx p s m args meth c R R_D b_D_writeAck none 4 5 153) (hA : ∀ q, s.heap.size ≤ q → A q) (zz : zk dC dI cB cI cL A s)  (N : Nat) (sT : zT) (sD : zD) (v2 : Int32) (a : zT) (c9 z9 cells slots tc tz : Nat) (hG : g_D_writeAck N sT sD v2 = some (a, c9, z9)) (kc : cells + c9 = tc) (kz : slots + z9 = tz) (hRc : tc ≤ R.cells) (hRz : tz ≤ R.slots) (adT adT_bytes adD adD_parts adD_bytes adD_lows adD_highs : Nat) (H : Heap) (locs : List Loc) (hP : va_P (dC, dI) zcl (zwT adT adT_bytes cB cI cL sT ++ zwD adD adD_parts adD_bytes adD_lows adD_highs cB cI cL sD) H) (hD : va_D A (zwT adT adT_bytes cB cI cL sT ++ zwD adD adD_parts adD_bytes adD_lows adD_highs cB cI cL sD)) (hS : va_S A s.heap H locs) (ls : Array Slot) (hl : lv_has ls 4 [(0, .ref adD), (1, .ref adT), (2, .int v2)]) : W p l e R s m args below meth c H locs cells slots (MQ below (q_D_writeAck dC dI cB cI cL A adT adD adD_parts adD_bytes adD_lows adD_highs sD a) args s tc tz A) (F0 m 0 ls []) := by
  obtain ⟨hx, hb, hr, hml, hown, hts, hlocks, hRf, hRl⟩ := id X
  unfold g_D_writeAck at hG
  refine lv_aload_n hx hb d_D_writeAck_0 rfl (lv_at hl 1 rfl) ?_
  refine lv_aload_n hx hb d_D_writeAck_1 rfl (lv_at hl 0 rfl) ?_
  refine va_get (D := (dC, dI)) (ci := 6) (v := .ref adD_highs) (C := R_D) (T := F_D) (N := 6) hx hb hts zi_D hown zz.1 hP 2 rfl rfl 3 (by decide) (hts (.fieldLink R_D 22 "WireCodec$Draft" "highs" "[J") zin_D_22) (fun _ h9 => h9) rfl d_D_writeAck_2 ?_
  refine lv_iconst (v := (0 : Int32)) hx hb d_D_writeAck_5 (by decide) ?_
  obtain ⟨hin, hG⟩ := zgd hG
  refine va_lald hx hb zz.1 hP 6 2 rfl rfl hin d_D_writeAck_6 ?_
  refine lv_iconst (v := (0 : Int32)) hx hb d_D_writeAck_7 (by decide) ?_
  obtain ⟨a_8, c_8, z_8, c9, z9, hx_8, hG, kc, kz⟩ := zcbde hG kc kz
  have hr_8 := zrunV (p := p) (e := e) (below := below) (meth := meth) (As := [.long ((zD_highs sD) (0 : Int32).toNatClampNeg), .int (0 : Int32)]) (rest := []) (st0 := [.int (0 : Int32), .long ((zD_highs sD) (0 : Int32).toNatClampNeg), .ref adT]) (cells := cells) (slots := slots) X zz hP hD hS hA [0, 1] (by decide) rfl (c_T_writeNumber l dC dI cB cI cL H.size adT adT_bytes N sT ((zD_highs sD) (0 : Int32).toNatClampNeg) (0 : Int32) _ _ _ hx_8) zy_T_writeNumber zv_T_writeNumber (hts (.methodLink R_D 85 y_T_writeNumber) zin_D_85) hl rfl rfl d_D_writeAck_8 (lv_room (Nat.le_of_ble_eq_true rfl)) rfl rfl ⟨Nat.le_trans (Nat.le_of_ble_eq_true rfl) hRf, Nat.le_trans (Nat.le_of_ble_eq_true rfl) hRl⟩ ⟨zle kc hRc, zle kz hRz⟩ 0 1 rfl rfl
  refine zcallv (wr := (zwD adD adD_parts adD_bytes adD_lows adD_highs cB cI cL sD)) hr_8 hP hD hS hA [0, 1] [2, 3, 4, 5, 6] rfl rfl (by decide) (by decide) (fun u_8 H locs hw_8 hP hD hS => ?_)
  obtain ⟨sT_8, qT_bytes_8⟩ := u_8
  subst hw_8
  have hP : va_P (dC, dI) zcl (zwD adD adD_parts adD_bytes adD_lows adD_highs cB cI cL sD ++ zwT adT qT_bytes_8 cB cI cL sT_8) H := hP
  have hD : va_D A (zwD adD adD_parts adD_bytes adD_lows adD_highs cB cI cL sD ++ zwT adT qT_bytes_8 cB cI cL sT_8) := hD
  have hG : g_D_writeAck_c8 N sD v2 sT_8 = some (a, c9, z9) := hG
  unfold g_D_writeAck_c8 at hG
  generalize cells + c_8 = cells at kc ⊢
  generalize slots + z_8 = slots at kz ⊢
  refine lv_aload_n hx hb d_D_writeAck_11 rfl (lv_at hl 1 rfl) ?_
  refine lv_aload_n hx hb d_D_writeAck_12 rfl (lv_at hl 0 rfl) ?_
  refine va_get (D := (dC, dI)) (ci := 6) (v := .ref adD_parts) (C := R_D) (T := F_D) (N := 6) hx hb hts zi_D hown zz.1 hP 0 rfl rfl 0 (by decide) (hts (.fieldLink R_D 9 "WireCodec$Draft" "parts" "[J") zin_D_9) (fun _ h9 => h9) rfl d_D_writeAck_13 ?_
  refine lv_iconst (v := (1 : Int32)) hx hb d_D_writeAck_16 (by decide) ?_
  obtain ⟨hin, hG⟩ := zgd hG
  refine va_lald hx hb zz.1 hP 1 2 rfl rfl hin d_D_writeAck_17 ?_
  refine lv_iconst (v := (0 : Int32)) hx hb d_D_writeAck_18 (by decide) ?_
  obtain ⟨a_19, c_19, z_19, c9, z9, hx_19, hG, kc, kz⟩ := zcbde hG kc kz
  have hr_19 := zrunV (p := p) (e := e) (below := below) (meth := meth) (As := [.long ((zD_parts sD) (1 : Int32).toNatClampNeg), .int (0 : Int32)]) (rest := []) (st0 := [.int (0 : Int32), .long ((zD_parts sD) (1 : Int32).toNatClampNeg), .ref adT]) (cells := cells) (slots := slots) X zz hP hD hS hA [5, 6] (by decide) rfl (c_T_writeNumber l dC dI cB cI cL H.size adT qT_bytes_8 N sT_8 ((zD_parts sD) (1 : Int32).toNatClampNeg) (0 : Int32) _ _ _ hx_19) zy_T_writeNumber zv_T_writeNumber (hts (.methodLink R_D 85 y_T_writeNumber) zin_D_85) hl rfl rfl d_D_writeAck_19 (lv_room (Nat.le_of_ble_eq_true rfl)) rfl rfl ⟨Nat.le_trans (Nat.le_of_ble_eq_true rfl) hRf, Nat.le_trans (Nat.le_of_ble_eq_true rfl) hRl⟩ ⟨zle kc hRc, zle kz hRz⟩ 0 1 rfl rfl
  refine zcallv (wr := (zwD adD adD_parts adD_bytes adD_lows adD_highs cB cI cL sD)) hr_19 hP hD hS hA [5, 6] [0, 1, 2, 3, 4] rfl rfl (by decide) (by decide) (fun u_19 H locs hw_19 hP hD hS => ?_)
  obtain ⟨sT_19, qT_bytes_19⟩ := u_19
  subst hw_19
  have hP : va_P (dC, dI) zcl (zwD adD adD_parts adD_bytes adD_lows adD_highs cB cI cL sD ++ zwT adT qT_bytes_19 cB cI cL sT_19) H := hP
  have hD : va_D A (zwD adD adD_parts adD_bytes adD_lows adD_highs cB cI cL sD ++ zwT adT qT_bytes_19 cB cI cL sT_19) := hD
  have hG : g_D_writeAck_c19 N sD v2 sT_19 = some (a, c9, z9) := hG
  unfold g_D_writeAck_c19 at hG
  generalize cells + c_19 = cells at kc ⊢
  generalize slots + z_19 = slots at kz ⊢
  refine lv_aload_n hx hb d_D_writeAck_22 rfl (lv_at hl 1 rfl) ?_
  refine lv_aload_n hx hb d_D_writeAck_23 rfl (lv_at hl 0 rfl) ?_
  refine va_get (D := (dC, dI)) (ci := 6) (v := .int (zD_ranges sD)) (C := R_D) (T := F_D) (N := 6) hx hb hts zi_D hown zz.1 hP 0 rfl rfl 5 (by decide) (hts (.fieldLink R_D 35 "WireCodec$Draft" "ranges" "I") zin_D_35) (fun _ h9 => h9) rfl d_D_writeAck_24 ?_
  refine lv_iconst (v := (1 : Int32)) hx hb d_D_writeAck_27 (by decide) ?_
  refine lv_isub hx hb d_D_writeAck_28 ?_
  refine lv_i2l hx hb d_D_writeAck_29 rfl ?_
  refine lv_iconst (v := (0 : Int32)) hx hb d_D_writeAck_30 (by decide) ?_
  obtain ⟨a_31, c_31, z_31, c9, z9, hx_31, hG, kc, kz⟩ := zcbde hG kc kz
  have hr_31 := zrunV (p := p) (e := e) (below := below) (meth := meth) (As := [.long (((zD_ranges sD) - (1 : Int32)).toInt64), .int (0 : Int32)]) (rest := []) (st0 := [.int (0 : Int32), .long (((zD_ranges sD) - (1 : Int32)).toInt64), .ref adT]) (cells := cells) (slots := slots) X zz hP hD hS hA [5, 6] (by decide) rfl (c_T_writeNumber l dC dI cB cI cL H.size adT qT_bytes_19 N sT_19 (((zD_ranges sD) - (1 : Int32)).toInt64) (0 : Int32) _ _ _ hx_31) zy_T_writeNumber zv_T_writeNumber (hts (.methodLink R_D 85 y_T_writeNumber) zin_D_85) hl rfl rfl d_D_writeAck_31 (lv_room (Nat.le_of_ble_eq_true rfl)) rfl rfl ⟨Nat.le_trans (Nat.le_of_ble_eq_true rfl) hRf, Nat.le_trans (Nat.le_of_ble_eq_true rfl) hRl⟩ ⟨zle kc hRc, zle kz hRz⟩ 0 1 rfl rfl
  refine zcallv (wr := (zwD adD adD_parts adD_bytes adD_lows adD_highs cB cI cL sD)) hr_31 hP hD hS hA [5, 6] [0, 1, 2, 3, 4] rfl rfl (by decide) (by decide) (fun u_31 H locs hw_31 hP hD hS => ?_)
  obtain ⟨sT_31, qT_bytes_31⟩ := u_31
  subst hw_31
  have hP : va_P (dC, dI) zcl (zwD adD adD_parts adD_bytes adD_lows adD_highs cB cI cL sD ++ zwT adT qT_bytes_31 cB cI cL sT_31) H := hP
  have hD : va_D A (zwD adD adD_parts adD_bytes adD_lows adD_highs cB cI cL sD ++ zwT adT qT_bytes_31 cB cI cL sT_31) := hD
  have hG : g_D_writeAck_c31 N sD v2 sT_31 = some (a, c9, z9) := hG
  unfold g_D_writeAck_c31 at hG
  generalize cells + c_31 = cells at kc ⊢
  generalize slots + z_31 = slots at kz ⊢
  refine lv_aload_n hx hb d_D_writeAck_34 rfl (lv_at hl 1 rfl) ?_
  refine lv_aload_n hx hb d_D_writeAck_35 rfl (lv_at hl 0 rfl) ?_
  refine va_get (D := (dC, dI)) (ci := 6) (v := .ref adD_highs) (C := R_D) (T := F_D) (N := 6) hx hb hts zi_D hown zz.1 hP 0 rfl rfl 3 (by decide) (hts (.fieldLink R_D 22 "WireCodec$Draft" "highs" "[J") zin_D_22) (fun _ h9 => h9) rfl d_D_writeAck_36 ?_
  refine lv_iconst (v := (0 : Int32)) hx hb d_D_writeAck_39 (by decide) ?_
  obtain ⟨hin, hG⟩ := zgd hG
  refine va_lald hx hb zz.1 hP 4 2 rfl rfl hin d_D_writeAck_40 ?_
  refine lv_aload_n hx hb d_D_writeAck_41 rfl (lv_at hl 0 rfl) ?_
  refine va_get (D := (dC, dI)) (ci := 6) (v := .ref adD_lows) (C := R_D) (T := F_D) (N := 6) hx hb hts zi_D hown zz.1 hP 0 rfl rfl 2 (by decide) (hts (.fieldLink R_D 19 "WireCodec$Draft" "lows" "[J") zin_D_19) (fun _ h9 => h9) rfl d_D_writeAck_42 ?_
  refine lv_iconst (v := (0 : Int32)) hx hb d_D_writeAck_45 (by decide) ?_
  obtain ⟨hin, hG⟩ := zgd hG
  refine va_lald hx hb zz.1 hP 3 2 rfl rfl hin d_D_writeAck_46 ?_
  refine lv_lsub hx hb d_D_writeAck_47 ?_
  refine lv_iconst (v := (0 : Int32)) hx hb d_D_writeAck_48 (by decide) ?_
  obtain ⟨a_49, c_49, z_49, c9, z9, hx_49, hG, kc, kz⟩ := zcbde hG kc kz
  have hr_49 := zrunV (p := p) (e := e) (below := below) (meth := meth) (As := [.long (((zD_highs sD) (0 : Int32).toNatClampNeg) - ((zD_lows sD) (0 : Int32).toNatClampNeg)), .int (0 : Int32)]) (rest := []) (st0 := [.int (0 : Int32), .long (((zD_highs sD) (0 : Int32).toNatClampNeg) - ((zD_lows sD) (0 : Int32).toNatClampNeg)), .ref adT]) (cells := cells) (slots := slots) X zz hP hD hS hA [5, 6] (by decide) rfl (c_T_writeNumber l dC dI cB cI cL H.size adT qT_bytes_31 N sT_31 (((zD_highs sD) (0 : Int32).toNatClampNeg) - ((zD_lows sD) (0 : Int32).toNatClampNeg)) (0 : Int32) _ _ _ hx_49) zy_T_writeNumber zv_T_writeNumber (hts (.methodLink R_D 85 y_T_writeNumber) zin_D_85) hl rfl rfl d_D_writeAck_49 (lv_room (Nat.le_of_ble_eq_true rfl)) rfl rfl ⟨Nat.le_trans (Nat.le_of_ble_eq_true rfl) hRf, Nat.le_trans (Nat.le_of_ble_eq_true rfl) hRl⟩ ⟨zle kc hRc, zle kz hRz⟩ 0 1 rfl rfl
  refine zcallv (wr := (zwD adD adD_parts adD_bytes adD_lows adD_highs cB cI cL sD)) hr_49 hP hD hS hA [5, 6] [0, 1, 2, 3, 4] rfl rfl (by decide) (by decide) (fun u_49 H locs hw_49 hP hD hS => ?_)
  obtain ⟨sT_49, qT_bytes_49⟩ := u_49
  subst hw_49
  have hP : va_P (dC, dI) zcl (zwD adD adD_parts adD_bytes adD_lows adD_highs cB cI cL sD ++ zwT adT qT_bytes_49 cB cI cL sT_49) H := hP
  have hD : va_D A (zwD adD adD_parts adD_bytes adD_lows adD_highs cB cI cL sD ++ zwT adT qT_bytes_49 cB cI cL sT_49) := hD
  have hG : g_D_writeAck_c49 N sD v2 sT_49 = some (a, c9, z9) := hG
  unfold g_D_writeAck_c49 at hG
  generalize cells + c_49 = cells at kc ⊢
  generalize slots + z_49 = slots at kz ⊢
  refine lv_iconst (v := (1 : Int32)) hx hb d_D_writeAck_52 (by decide) ?_
  refine lv_istore_n (lv' := [(3, .int (1 : Int32)), (0, .ref adD), (1, .ref adT), (2, .int v2)]) hx hb d_D_writeAck_53 rfl hl (by decide) rfl (fun ls hl => ?_)
  exact k_D_writeAck_54 X hA zz N _ _ hRc hRz N sT_49 sD v2 (1 : Int32) _ _ _ _ _ hG kc kz adT qT_bytes_49 adD adD_parts adD_bytes adD_lows adD_highs _ _ (hP.sub [5, 6, 0, 1, 2, 3, 4] rfl) (hD.sub [5, 6, 0, 1, 2, 3, 4] (by decide) rfl) hS _ (lv_sub hl [1, 2, 3, 0] rfl)
set_option maxRecDepth 100000 in
set_option maxHeartbeats 4000000 in
theorem c_D_writeAck (l : Launch) (dC : Nat → ClassId) (dI : Nat → Nat → Nat) (cB cI cL : ClassId) (sz : Nat) (adT adT_bytes adD adD_parts adD_bytes adD_lows adD_highs : Nat) (N : Nat) (sT : zT) (sD : zD) (v2 : Int32) (a : zT) (c9 z9 : Nat) (hG : g_D_writeAck N sT sD v2 = some (a, c9, z9)) : Met l y_D_writeAck (zw y_D_writeAck b_D_writeAck 4 none) ({ frames := 5, cells := c9, slots := z9, locals := 153 }) (va_Pc [.ref adD, .ref adT, .int v2] (zpre dC dI cB cI cL sz (zwT adT adT_bytes cB cI cL sT ++ zwD adD adD_parts adD_bytes adD_lows adD_highs cB cI cL sD))) (q_D_writeAck dC dI cB cI cL (va_A (zwT adT adT_bytes cB cI cL sT ++ zwD adD adD_parts adD_bytes adD_lows adD_highs cB cI cL sD) sz) adT adD adD_parts adD_bytes adD_lows adD_highs sD a) c9 z9 (va_A (zwT adT adT_bytes cB cI cL sT ++ zwD adD adD_parts adD_bytes adD_lows adD_highs cB cI cL sD) sz) := by
  refine Met.ofW (cc := b_D_writeAck) (maxL := 4) (ret := none) (by decide) rfl ?_
  intro p e s m args below meth c s₁ B hml hv
  obtain ⟨rfl, hsz, hP, zz, hD0⟩ := hv
  subst hsz
  have X := zx_of (F := 5) (L := 153) B hml (Nat.le_refl _) (Nat.le_refl _)
  have hD := hD0.self (sz := s.heap.size)
  have hA : ∀ q : Nat, s.heap.size ≤ q → va_A (zwT adT adT_bytes cB cI cL sT ++ zwD adD adD_parts adD_bytes adD_lows adD_highs cB cI cL sD) s.heap.size q := fun q h => Or.inr h
  have hl := lv_entry ([.ref adD, .ref adT, .int v2]) (n := 4) (Nat.le_of_ble_eq_true rfl)
  rw [lg_entry_eq]
  generalize (lg_sl ([.ref adD, .ref adT, .int v2]) ++ List.replicate (4 - (lg_sl ([.ref adD, .ref adT, .int v2])).length) Slot.unset).toArray = ls at hl ⊢
  exact k_D_writeAck_0 X hA zz N sT sD v2 a c9 z9 0 0 c9 z9 hG (Nat.zero_add _) (Nat.zero_add _) (Nat.le_refl _) (Nat.le_refl _) adT adT_bytes adD adD_parts adD_bytes adD_lows adD_highs _ _ hP hD va_S.rf ls hl
noncomputable def g_H_sizeOfName_44 (N : Nat) (sT : zT) (sR : zR) (sH : zH) (s0 : Int32) : Option (Int32 × zR × zH) := some (s0, sR, sH)
noncomputable def g_H_sizeOfName_33 (N : Nat) (sT : zT) (sR : zR) (sH : zH) (v3 : Int32) : Option (Int32 × zR × zH) := if v3 ≤ (20 : Int32) then (g_H_sizeOfName_44 N sT sR sH (0 : Int32)) else (g_H_sizeOfName_44 N sT sR sH (5 : Int32))
noncomputable def g_H_sizeOfName_w32 (N : Nat) (sT : zT) (sR_2 : zR) (r_2 : Int64) (sH_32 : zH) : Option (Int32 × zR × zH) := g_H_sizeOfName_33 N sT sR_2 sH_32 r_2.toInt32
noncomputable def g_H_sizeOfName_c2 (N : Nat) (sT : zT) (sH : zH) (v2 : Int32) (sR_2 : zR) (r_2 : Int64) : Option (Int32 × zR × zH) := if (zR_over sR_2) = (0 : Int32) then (if v2 < (0 : Int32) then (g_H_sizeOfName_33 N sT sR_2 sH r_2.toInt32) else (if (12 : Int32) ≤ v2 then (g_H_sizeOfName_33 N sT sR_2 sH r_2.toInt32) else (zg (vp_in v2 12) (g_H_sizeOfName_w32 N sT sR_2 r_2 (zH_parts' sH (upd (zH_parts sH) v2.toNatClampNeg r_2.toInt32)))))) else (some ((1 : Int32), sR_2, sH))
noncomputable def g_H_sizeOfName (N : Nat) (sT : zT) (sR : zR) (sH : zH) (v2 : Int32) : Option (Int32 × zR × zH) := (g_R_takeWord N sT sR (1 : Int32)).bind (fun a => g_H_sizeOfName_c2 N sT sH v2 a.2 a.1)
def q_H_sizeOfName (dC : Nat → ClassId) (dI : Nat → Nat → Nat) (cB cI cL : ClassId) (A : Nat → Prop) (adT : Nat) (adT_bytes : Nat) (adR : Nat) (adH : Nat) (adH_parts : Nat) (sT : zT) (a : Int32 × zR × zH) : Array Value → State → Outcome → State → Prop := va_Qi (fun (r : Int32) (u : zR × zH) => (r, u.1, u.2) = a) (fun u U => va_P (dC, dI) zcl (zwT adT adT_bytes cB cI cL sT ++ zwR adR adT cB cI cL u.1 ++ zwH adH adH_parts cB cI cL u.2) U.heap ∧ va_D A (zwT adT adT_bytes cB cI cL sT ++ zwR adR adT cB cI cL u.1 ++ zwH adH adH_parts cB cI cL u.2)) A
set_option maxRecDepth 100000 in
set_option maxHeartbeats 4000000 in
theorem k_H_sizeOfName_44 {p : Program} {l : Launch} {e : Env} {R : Room} {s : State} {m : MethodId} {args : Array Value} {below : List Frame} {meth : Method} {c : Code} {dC : Nat → ClassId} {dI : Nat → Nat → Nat} {cB cI cL : ClassId} {A : Nat → Prop} (X : zx p s m args meth c R R_H b_H_sizeOfName (some .int) 4 3 65) (hA : ∀ q, s.heap.size ≤ q → A q) (zz : zk dC dI cB cI cL A s)  (N : Nat) (sT : zT) (sR : zR) (sH : zH) (s0 : Int32) (a : Int32 × zR × zH) (hG : g_H_sizeOfName_44 N sT sR sH s0 = some a) (adT adT_bytes adR adH adH_parts : Nat) (H : Heap) (locs : List Loc) (hP : va_P (dC, dI) zcl (zwT adT adT_bytes cB cI cL sT ++ zwR adR adT cB cI cL sR ++ zwH adH adH_parts cB cI cL sH) H) (hD : va_D A (zwT adT adT_bytes cB cI cL sT ++ zwR adR adT cB cI cL sR ++ zwH adH adH_parts cB cI cL sH)) (hS : va_S A s.heap H locs) (ls : Array Slot) (hl : lv_has ls 4 []) : W p l e R s m args below meth c H locs 0 0 (MQ below (q_H_sizeOfName dC dI cB cI cL A adT adT_bytes adR adH adH_parts sT a) args s 0 0 A) (F0 m 44 ls [.int s0]) := by
  obtain ⟨hx, hb, hr, hml, hown, hts, hlocks, hRf, hRl⟩ := id X
  unfold g_H_sizeOfName_44 at hG
  exact W.iret (v := s0) hx hb hr (fun t9 ht9 hW9 => ⟨⟨s0, (sR, sH), rfl, Option.some.inj hG, by rw [ht9]; exact hP, hD⟩, hS.F ht9⟩) hS.2.2 d_H_sizeOfName_44
set_option maxRecDepth 100000 in
set_option maxHeartbeats 4000000 in
theorem k_H_sizeOfName_33 {p : Program} {l : Launch} {e : Env} {R : Room} {s : State} {m : MethodId} {args : Array Value} {below : List Frame} {meth : Method} {c : Code} {dC : Nat → ClassId} {dI : Nat → Nat → Nat} {cB cI cL : ClassId} {A : Nat → Prop} (X : zx p s m args meth c R R_H b_H_sizeOfName (some .int) 4 3 65) (hA : ∀ q, s.heap.size ≤ q → A q) (zz : zk dC dI cB cI cL A s)  (N : Nat) (sT : zT) (sR : zR) (sH : zH) (v3 : Int32) (a : Int32 × zR × zH) (hG : g_H_sizeOfName_33 N sT sR sH v3 = some a) (adT adT_bytes adR adH adH_parts : Nat) (H : Heap) (locs : List Loc) (hP : va_P (dC, dI) zcl (zwT adT adT_bytes cB cI cL sT ++ zwR adR adT cB cI cL sR ++ zwH adH adH_parts cB cI cL sH) H) (hD : va_D A (zwT adT adT_bytes cB cI cL sT ++ zwR adR adT cB cI cL sR ++ zwH adH adH_parts cB cI cL sH)) (hS : va_S A s.heap H locs) (ls : Array Slot) (hl : lv_has ls 4 [(3, .int v3)]) : W p l e R s m args below meth c H locs 0 0 (MQ below (q_H_sizeOfName dC dI cB cI cL A adT adT_bytes adR adH adH_parts sT a) args s 0 0 A) (F0 m 33 ls []) := by
  obtain ⟨hx, hb, hr, hml, hown, hts, hlocks, hRf, hRl⟩ := id X
  unfold g_H_sizeOfName_33 at hG
  refine lv_iload_n hx hb d_H_sizeOfName_33 rfl (lv_at hl 0 rfl) ?_
  refine lv_bipush (v := (20 : Int32)) hx hb d_H_sizeOfName_34 (by decide) ?_
  refine lv_icmp_le (tgt := 43) hx hb d_H_sizeOfName_36 (by decide) (fun hc => ?_) (fun hc => ?_)
  · have hG := zt hG hc
    refine lv_iconst (v := (0 : Int32)) hx hb d_H_sizeOfName_43 (by decide) ?_
    exact k_H_sizeOfName_44 X hA zz N sT sR sH (0 : Int32) _ hG adT adT_bytes adR adH adH_parts _ _ hP hD hS _ (lv_sub hl [] rfl)
  · have hG := zf hG hc
    refine lv_iconst (v := (5 : Int32)) hx hb d_H_sizeOfName_39 (by decide) ?_
    refine lv_goto (tgt := 44) hx hb d_H_sizeOfName_40 (by decide) ?_
    exact k_H_sizeOfName_44 X hA zz N sT sR sH (5 : Int32) _ hG adT adT_bytes adR adH adH_parts _ _ hP hD hS _ (lv_sub hl [] rfl)
set_option maxRecDepth 100000 in
set_option maxHeartbeats 4000000 in
theorem k_H_sizeOfName_0 {p : Program} {l : Launch} {e : Env} {R : Room} {s : State} {m : MethodId} {args : Array Value} {below : List Frame} {meth : Method} {c : Code} {dC : Nat → ClassId} {dI : Nat → Nat → Nat} {cB cI cL : ClassId} {A : Nat → Prop} (X : zx p s m args meth c R R_H b_H_sizeOfName (some .int) 4 3 65) (hA : ∀ q, s.heap.size ≤ q → A q) (zz : zk dC dI cB cI cL A s)  (N : Nat) (sT : zT) (sR : zR) (sH : zH) (v2 : Int32) (a : Int32 × zR × zH) (hG : g_H_sizeOfName N sT sR sH v2 = some a) (adT adT_bytes adR adH adH_parts : Nat) (H : Heap) (locs : List Loc) (hP : va_P (dC, dI) zcl (zwT adT adT_bytes cB cI cL sT ++ zwR adR adT cB cI cL sR ++ zwH adH adH_parts cB cI cL sH) H) (hD : va_D A (zwT adT adT_bytes cB cI cL sT ++ zwR adR adT cB cI cL sR ++ zwH adH adH_parts cB cI cL sH)) (hS : va_S A s.heap H locs) (ls : Array Slot) (hl : lv_has ls 4 [(0, .ref adH), (1, .ref adR), (2, .int v2)]) : W p l e R s m args below meth c H locs 0 0 (MQ below (q_H_sizeOfName dC dI cB cI cL A adT adT_bytes adR adH adH_parts sT a) args s 0 0 A) (F0 m 0 ls []) := by
  obtain ⟨hx, hb, hr, hml, hown, hts, hlocks, hRf, hRl⟩ := id X
  unfold g_H_sizeOfName at hG
  refine lv_aload_n hx hb d_H_sizeOfName_0 rfl (lv_at hl 1 rfl) ?_
  refine lv_iconst (v := (1 : Int32)) hx hb d_H_sizeOfName_1 (by decide) ?_
  obtain ⟨a_2, hx_2, hG⟩ := zb hG
  have hr_2 := zrunV (p := p) (e := e) (below := below) (meth := meth) (As := [.int (1 : Int32)]) (rest := []) (st0 := [.int (1 : Int32), .ref adR]) (cells := 0) (slots := 0) X zz hP hD hS hA [0, 1, 2] (by decide) rfl (c_R_takeWord l dC dI cB cI cL H.size adT adT_bytes adR N sT sR (1 : Int32) _ hx_2) zy_R_takeWord zv_R_takeWord (hts (.methodLink R_H 27 y_R_takeWord) zin_H_27) hl rfl rfl d_H_sizeOfName_2 (lv_room (Nat.le_of_ble_eq_true rfl)) rfl rfl ⟨Nat.le_trans (Nat.le_of_ble_eq_true rfl) hRf, Nat.le_trans (Nat.le_of_ble_eq_true rfl) hRl⟩ ⟨Nat.zero_le _, Nat.zero_le _⟩ 2 2 rfl rfl
  refine zcalll (wr := (zwH adH adH_parts cB cI cL sH)) hr_2 hP hD hS hA [0, 1, 2] [3, 4] rfl rfl (by decide) (by decide) (fun r_2 u_2 H locs hw_2 hP hD hS => ?_)
  obtain ⟨sR_2, rfl⟩ : ∃ z, z = u_2 := ⟨_, rfl⟩
  subst hw_2
  have hP : va_P (dC, dI) zcl (zwH adH adH_parts cB cI cL sH ++ zwT adT adT_bytes cB cI cL sT ++ zwR adR adT cB cI cL sR_2) H := hP
  have hD : va_D A (zwH adH adH_parts cB cI cL sH ++ zwT adT adT_bytes cB cI cL sT ++ zwR adR adT cB cI cL sR_2) := hD
  have hG : g_H_sizeOfName_c2 N sT sH v2 sR_2 r_2 = some a := hG
  unfold g_H_sizeOfName_c2 at hG
  refine lv_l2i hx hb d_H_sizeOfName_5 rfl ?_
  refine lv_istore_n (lv' := [(3, .int r_2.toInt32), (0, .ref adH), (1, .ref adR), (2, .int v2)]) hx hb d_H_sizeOfName_6 rfl hl (by decide) rfl (fun ls hl => ?_)
  refine lv_aload_n hx hb d_H_sizeOfName_7 rfl (lv_at hl 2 rfl) ?_
  refine va_get (D := (dC, dI)) (ci := 2) (v := .int (zR_over sR_2)) (C := R_R) (T := F_R) (N := 4) hx hb hts zi_R hown zz.1 hP 4 rfl rfl 3 (by decide) (hts (.fieldLink R_H 31 "WireCodec$Reader" "over" "Z") zin_H_31) (fun _ h9 => h9) rfl d_H_sizeOfName_8 ?_
  refine lv_if_eq (tgt := 16) hx hb d_H_sizeOfName_11 (by decide) (fun hc => ?_) (fun hc => ?_)
  · have hG := zt hG hc
    refine lv_iload_n hx hb d_H_sizeOfName_16 rfl (lv_at hl 3 rfl) ?_
    refine lv_if_lt (tgt := 33) hx hb d_H_sizeOfName_17 (by decide) (fun hc => ?_) (fun hc => ?_)
    · have hG := zt hG hc
      exact k_H_sizeOfName_33 X hA zz N sT sR_2 sH r_2.toInt32 _ hG adT adT_bytes adR adH adH_parts _ _ (hP.sub [2, 3, 4, 0, 1] rfl) (hD.sub [2, 3, 4, 0, 1] (by decide) rfl) hS _ (lv_sub hl [0] rfl)
    · have hG := zf hG hc
      refine lv_iload_n hx hb d_H_sizeOfName_20 rfl (lv_at hl 3 rfl) ?_
      refine lv_bipush (v := (12 : Int32)) hx hb d_H_sizeOfName_21 (by decide) ?_
      refine lv_icmp_ge (tgt := 33) hx hb d_H_sizeOfName_23 (by decide) (fun hc => ?_) (fun hc => ?_)
      · have hG := zt hG hc
        exact k_H_sizeOfName_33 X hA zz N sT sR_2 sH r_2.toInt32 _ hG adT adT_bytes adR adH adH_parts _ _ (hP.sub [2, 3, 4, 0, 1] rfl) (hD.sub [2, 3, 4, 0, 1] (by decide) rfl) hS _ (lv_sub hl [0] rfl)
      · have hG := zf hG hc
        refine lv_aload_n hx hb d_H_sizeOfName_26 rfl (lv_at hl 1 rfl) ?_
        refine va_get (D := (dC, dI)) (ci := 5) (v := .ref adH_parts) (C := R_H) (T := F_H) (N := 1) hx hb hts zi_H hown zz.1 hP 0 rfl rfl 0 (by decide) (hts (.fieldLink R_H 9 "WireCodec$Header" "parts" "[I") zin_H_9) (fun _ h9 => h9) rfl d_H_sizeOfName_27 ?_
        refine lv_iload_n hx hb d_H_sizeOfName_30 rfl (lv_at hl 3 rfl) ?_
        refine lv_iload_n hx hb d_H_sizeOfName_31 rfl (lv_at hl 0 rfl) ?_
        obtain ⟨hin, hG⟩ := zgd hG
        refine va_iast hx hb zz.1 hP hD hS 1 1 rfl rfl hin d_H_sizeOfName_32 (fun H locs hP hD hS => ?_)
        have hP : va_P (dC, dI) zcl (zwH adH adH_parts cB cI cL (zH_parts' sH (upd (zH_parts sH) v2.toNatClampNeg r_2.toInt32)) ++ zwT adT adT_bytes cB cI cL sT ++ zwR adR adT cB cI cL sR_2) H := hP
        have hD : va_D A (zwH adH adH_parts cB cI cL (zH_parts' sH (upd (zH_parts sH) v2.toNatClampNeg r_2.toInt32)) ++ zwT adT adT_bytes cB cI cL sT ++ zwR adR adT cB cI cL sR_2) := hD
        have hG : g_H_sizeOfName_w32 N sT sR_2 r_2 (zH_parts' sH (upd (zH_parts sH) v2.toNatClampNeg r_2.toInt32)) = some a := hG
        generalize zH_parts' sH (upd (zH_parts sH) v2.toNatClampNeg r_2.toInt32) = sH_32 at hP hD hG
        unfold g_H_sizeOfName_w32 at hG
        exact k_H_sizeOfName_33 X hA zz N sT sR_2 sH_32 r_2.toInt32 _ hG adT adT_bytes adR adH adH_parts _ _ (hP.sub [2, 3, 4, 0, 1] rfl) (hD.sub [2, 3, 4, 0, 1] (by decide) rfl) hS _ (lv_sub hl [0] rfl)
  · have hG := zf hG hc
    refine lv_iconst (v := (1 : Int32)) hx hb d_H_sizeOfName_14 (by decide) ?_
    exact W.iret (v := (1 : Int32)) hx hb hr (fun t9 ht9 hW9 => ⟨⟨(1 : Int32), (sR_2, sH), rfl, Option.some.inj hG, by rw [ht9]; exact (hP.sub [2, 3, 4, 0, 1] rfl), (hD.sub [2, 3, 4, 0, 1] (by decide) rfl)⟩, hS.F ht9⟩) hS.2.2 d_H_sizeOfName_15
set_option maxRecDepth 100000 in
set_option maxHeartbeats 4000000 in
theorem c_H_sizeOfName (l : Launch) (dC : Nat → ClassId) (dI : Nat → Nat → Nat) (cB cI cL : ClassId) (sz : Nat) (adT adT_bytes adR adH adH_parts : Nat) (N : Nat) (sT : zT) (sR : zR) (sH : zH) (v2 : Int32) (a : Int32 × zR × zH) (hG : g_H_sizeOfName N sT sR sH v2 = some a) : Met l y_H_sizeOfName (zw y_H_sizeOfName b_H_sizeOfName 4 (some .int)) ({ frames := 3, cells := 0, slots := 0, locals := 65 }) (va_Pc [.ref adH, .ref adR, .int v2] (zpre dC dI cB cI cL sz (zwT adT adT_bytes cB cI cL sT ++ zwR adR adT cB cI cL sR ++ zwH adH adH_parts cB cI cL sH))) (q_H_sizeOfName dC dI cB cI cL (va_A (zwT adT adT_bytes cB cI cL sT ++ zwR adR adT cB cI cL sR ++ zwH adH adH_parts cB cI cL sH) sz) adT adT_bytes adR adH adH_parts sT a) 0 0 (va_A (zwT adT adT_bytes cB cI cL sT ++ zwR adR adT cB cI cL sR ++ zwH adH adH_parts cB cI cL sH) sz) := by
  refine Met.ofW (cc := b_H_sizeOfName) (maxL := 4) (ret := (some .int)) (by decide) rfl ?_
  intro p e s m args below meth c s₁ B hml hv
  obtain ⟨rfl, hsz, hP, zz, hD0⟩ := hv
  subst hsz
  have X := zx_of (F := 3) (L := 65) B hml (Nat.le_refl _) (Nat.le_refl _)
  have hD := hD0.self (sz := s.heap.size)
  have hA : ∀ q : Nat, s.heap.size ≤ q → va_A (zwT adT adT_bytes cB cI cL sT ++ zwR adR adT cB cI cL sR ++ zwH adH adH_parts cB cI cL sH) s.heap.size q := fun q h => Or.inr h
  have hl := lv_entry ([.ref adH, .ref adR, .int v2]) (n := 4) (Nat.le_of_ble_eq_true rfl)
  rw [lg_entry_eq]
  generalize (lg_sl ([.ref adH, .ref adR, .int v2]) ++ List.replicate (4 - (lg_sl ([.ref adH, .ref adR, .int v2])).length) Slot.unset).toArray = ls at hl ⊢
  exact k_H_sizeOfName_0 X hA zz N sT sR sH v2 a hG adT adT_bytes adR adH adH_parts _ _ hP hD va_S.rf ls hl
noncomputable def g_R_takeNumber_w34 (sR_34 : zR) : Option (Int64 × zR) := some ((0 : Int64), sR_34)
noncomputable def g_R_takeNumber_32 (N : Nat) (sT : zT) (sR : zR) : Option (Int64 × zR) := g_R_takeNumber_w34 (zR_over' sR (1 : Int32))
noncomputable def g_R_takeNumber_w59 (r_48 : Int64) (sR_59 : zR) : Option (Int64 × zR) := some (r_48, sR_59)
noncomputable def g_R_takeNumber_c48 (sR : zR) (r_8 : Int32) (r_48 : Int64) : Option (Int64 × zR) := g_R_takeNumber_w59 r_48 (zR_place' sR ((zR_place sR) + r_8))
noncomputable def g_R_takeNumber_c8 (N : Nat) (sT : zT) (sR : zR) (r_8 : Int32) : Option (Int64 × zR) := if (zR_over sR) = (0 : Int32) then (if r_8 ≤ ((zR_limit sR) - (zR_place sR)) then ((g_T_numberAt N sT (zR_place sR) r_8).bind (fun a => g_R_takeNumber_c48 sR r_8 a)) else (g_R_takeNumber_32 N sT sR)) else (g_R_takeNumber_32 N sT sR)
noncomputable def g_R_takeNumber (N : Nat) (sT : zT) (sR : zR) : Option (Int64 × zR) := (g_T_numberBytesAt sT (zR_place sR)).bind (fun a => g_R_takeNumber_c8 N sT sR a)
def q_R_takeNumber (dC : Nat → ClassId) (dI : Nat → Nat → Nat) (cB cI cL : ClassId) (A : Nat → Prop) (adT : Nat) (adT_bytes : Nat) (adR : Nat) (sT : zT) (a : Int64 × zR) : Array Value → State → Outcome → State → Prop := va_Ql (fun (r : Int64) (u : zR) => (r, u) = a) (fun u U => va_P (dC, dI) zcl (zwT adT adT_bytes cB cI cL sT ++ zwR adR adT cB cI cL u) U.heap ∧ va_D A (zwT adT adT_bytes cB cI cL sT ++ zwR adR adT cB cI cL u)) A
set_option maxRecDepth 100000 in
set_option maxHeartbeats 4000000 in
theorem k_R_takeNumber_32 {p : Program} {l : Launch} {e : Env} {R : Room} {s : State} {m : MethodId} {args : Array Value} {below : List Frame} {meth : Method} {c : Code} {dC : Nat → ClassId} {dI : Nat → Nat → Nat} {cB cI cL : ClassId} {A : Nat → Prop} (X : zx p s m args meth c R R_R b_R_takeNumber (some .long) 4 2 47) (hA : ∀ q, s.heap.size ≤ q → A q) (zz : zk dC dI cB cI cL A s)  (N : Nat) (sT : zT) (sR : zR) (a : Int64 × zR) (hG : g_R_takeNumber_32 N sT sR = some a) (adT adT_bytes adR : Nat) (H : Heap) (locs : List Loc) (hP : va_P (dC, dI) zcl (zwT adT adT_bytes cB cI cL sT ++ zwR adR adT cB cI cL sR) H) (hD : va_D A (zwT adT adT_bytes cB cI cL sT ++ zwR adR adT cB cI cL sR)) (hS : va_S A s.heap H locs) (ls : Array Slot) (hl : lv_has ls 4 [(0, .ref adR)]) : W p l e R s m args below meth c H locs 0 0 (MQ below (q_R_takeNumber dC dI cB cI cL A adT adT_bytes adR sT a) args s 0 0 A) (F0 m 32 ls []) := by
  obtain ⟨hx, hb, hr, hml, hown, hts, hlocks, hRf, hRl⟩ := id X
  unfold g_R_takeNumber_32 at hG
  refine lv_aload_n hx hb d_R_takeNumber_32 rfl (lv_at hl 0 rfl) ?_
  refine lv_iconst (v := (1 : Int32)) hx hb d_R_takeNumber_33 (by decide) ?_
  refine va_put (D := (dC, dI)) (ci := 2) (v := .int (1 : Int32)) (ty := .boolean) (C := R_R) (T := F_R) (N := 4) hx hb hts zi_R zty_R zty_R_ok znm_R hown zz.1 hP hD hS 2 rfl rfl 3 (by decide) (hts (.fieldLink R_R 20 "WireCodec$Reader" "over" "Z") zin_R_20) (fun _ h9 => h9) rfl (by decide +kernel) rfl rfl (Nat.le_of_ble_eq_true rfl) d_R_takeNumber_34 (fun H locs hP hD hS => ?_)
  have hP : va_P (dC, dI) zcl (zwT adT adT_bytes cB cI cL sT ++ zwR adR adT cB cI cL (zR_over' sR (1 : Int32))) H := hP
  have hD : va_D A (zwT adT adT_bytes cB cI cL sT ++ zwR adR adT cB cI cL (zR_over' sR (1 : Int32))) := hD
  have hG : g_R_takeNumber_w34 (zR_over' sR (1 : Int32)) = some a := hG
  generalize zR_over' sR (1 : Int32) = sR_34 at hP hD hG
  unfold g_R_takeNumber_w34 at hG
  refine lv_lconst (v := (0 : Int64)) hx hb d_R_takeNumber_37 (by decide) ?_
  exact W.lret (v := (0 : Int64)) hx hb hr (fun t9 ht9 hW9 => ⟨⟨(0 : Int64), (sR_34), rfl, Option.some.inj hG, by rw [ht9]; exact hP, hD⟩, hS.F ht9⟩) hS.2.2 d_R_takeNumber_38
set_option maxRecDepth 100000 in
set_option maxHeartbeats 4000000 in
theorem k_R_takeNumber_0 {p : Program} {l : Launch} {e : Env} {R : Room} {s : State} {m : MethodId} {args : Array Value} {below : List Frame} {meth : Method} {c : Code} {dC : Nat → ClassId} {dI : Nat → Nat → Nat} {cB cI cL : ClassId} {A : Nat → Prop} (X : zx p s m args meth c R R_R b_R_takeNumber (some .long) 4 2 47) (hA : ∀ q, s.heap.size ≤ q → A q) (zz : zk dC dI cB cI cL A s)  (N : Nat) (sT : zT) (sR : zR) (a : Int64 × zR) (hG : g_R_takeNumber N sT sR = some a) (adT adT_bytes adR : Nat) (H : Heap) (locs : List Loc) (hP : va_P (dC, dI) zcl (zwT adT adT_bytes cB cI cL sT ++ zwR adR adT cB cI cL sR) H) (hD : va_D A (zwT adT adT_bytes cB cI cL sT ++ zwR adR adT cB cI cL sR)) (hS : va_S A s.heap H locs) (ls : Array Slot) (hl : lv_has ls 4 [(0, .ref adR)]) : W p l e R s m args below meth c H locs 0 0 (MQ below (q_R_takeNumber dC dI cB cI cL A adT adT_bytes adR sT a) args s 0 0 A) (F0 m 0 ls []) := by
  obtain ⟨hx, hb, hr, hml, hown, hts, hlocks, hRf, hRl⟩ := id X
  unfold g_R_takeNumber at hG
  refine lv_aload_n hx hb d_R_takeNumber_0 rfl (lv_at hl 0 rfl) ?_
  refine va_get (D := (dC, dI)) (ci := 2) (v := .ref adT) (C := R_R) (T := F_R) (N := 4) hx hb hts zi_R hown zz.1 hP 2 rfl rfl 0 (by decide) (hts (.fieldLink R_R 7 "WireCodec$Reader" "tape" "LWireCodec$Tape;") zin_R_7) (fun _ h9 => h9) rfl d_R_takeNumber_1 ?_
  refine lv_aload_n hx hb d_R_takeNumber_4 rfl (lv_at hl 0 rfl) ?_
  refine va_get (D := (dC, dI)) (ci := 2) (v := .int (zR_place sR)) (C := R_R) (T := F_R) (N := 4) hx hb hts zi_R hown zz.1 hP 2 rfl rfl 1 (by decide) (hts (.fieldLink R_R 13 "WireCodec$Reader" "place" "I") zin_R_13) (fun _ h9 => h9) rfl d_R_takeNumber_5 ?_
  obtain ⟨a_8, hx_8, hG⟩ := zb hG
  have hr_8 := zrunV (p := p) (e := e) (below := below) (meth := meth) (As := [.int (zR_place sR)]) (rest := []) (st0 := [.int (zR_place sR), .ref adT]) (cells := 0) (slots := 0) X zz hP hD hS hA [0, 1] (by decide) rfl (c_T_numberBytesAt l dC dI cB cI cL H.size adT adT_bytes sT (zR_place sR) _ hx_8) zy_T_numberBytesAt zv_T_numberBytesAt (hts (.methodLink R_R 38 y_T_numberBytesAt) zin_R_38) hl rfl rfl d_R_takeNumber_8 (lv_room (Nat.le_of_ble_eq_true rfl)) rfl rfl ⟨Nat.le_trans (Nat.le_of_ble_eq_true rfl) hRf, Nat.le_trans (Nat.le_of_ble_eq_true rfl) hRl⟩ ⟨Nat.zero_le _, Nat.zero_le _⟩ 0 1 rfl rfl
  refine zcalli (wr := (zwR adR adT cB cI cL sR)) hr_8 hP hD hS hA [0, 1] [2] rfl rfl (by decide) (by decide) (fun r_8 u_8 H locs hw_8 hP hD hS => ?_)
  subst hw_8
  have hP : va_P (dC, dI) zcl (zwR adR adT cB cI cL sR ++ zwT adT adT_bytes cB cI cL sT) H := hP
  have hD : va_D A (zwR adR adT cB cI cL sR ++ zwT adT adT_bytes cB cI cL sT) := hD
  have hG : g_R_takeNumber_c8 N sT sR r_8 = some a := hG
  unfold g_R_takeNumber_c8 at hG
  refine lv_istore_n (lv' := [(1, .int r_8), (0, .ref adR)]) hx hb d_R_takeNumber_11 rfl hl (by decide) rfl (fun ls hl => ?_)
  refine lv_aload_n hx hb d_R_takeNumber_12 rfl (lv_at hl 1 rfl) ?_
  refine va_get (D := (dC, dI)) (ci := 2) (v := .int (zR_over sR)) (C := R_R) (T := F_R) (N := 4) hx hb hts zi_R hown zz.1 hP 0 rfl rfl 3 (by decide) (hts (.fieldLink R_R 20 "WireCodec$Reader" "over" "Z") zin_R_20) (fun _ h9 => h9) rfl d_R_takeNumber_13 ?_
  refine lv_if_ne (tgt := 32) hx hb d_R_takeNumber_16 (by decide) (fun hc => ?_) (fun hc => ?_)
  · have hG := zf hG hc
    exact k_R_takeNumber_32 X hA zz N sT sR _ hG adT adT_bytes adR _ _ (hP.sub [1, 2, 0] rfl) (hD.sub [1, 2, 0] (by decide) rfl) hS _ (lv_sub hl [1] rfl)
  · have hG := zt hG hc
    refine lv_iload_n hx hb d_R_takeNumber_19 rfl (lv_at hl 0 rfl) ?_
    refine lv_aload_n hx hb d_R_takeNumber_20 rfl (lv_at hl 1 rfl) ?_
    refine va_get (D := (dC, dI)) (ci := 2) (v := .int (zR_limit sR)) (C := R_R) (T := F_R) (N := 4) hx hb hts zi_R hown zz.1 hP 0 rfl rfl 2 (by decide) (hts (.fieldLink R_R 17 "WireCodec$Reader" "limit" "I") zin_R_17) (fun _ h9 => h9) rfl d_R_takeNumber_21 ?_
    refine lv_aload_n hx hb d_R_takeNumber_24 rfl (lv_at hl 1 rfl) ?_
    refine va_get (D := (dC, dI)) (ci := 2) (v := .int (zR_place sR)) (C := R_R) (T := F_R) (N := 4) hx hb hts zi_R hown zz.1 hP 0 rfl rfl 1 (by decide) (hts (.fieldLink R_R 13 "WireCodec$Reader" "place" "I") zin_R_13) (fun _ h9 => h9) rfl d_R_takeNumber_25 ?_
    refine lv_isub hx hb d_R_takeNumber_28 ?_
    refine lv_icmp_le (tgt := 39) hx hb d_R_takeNumber_29 (by decide) (fun hc => ?_) (fun hc => ?_)
    · have hG := zt hG hc
      refine lv_aload_n hx hb d_R_takeNumber_39 rfl (lv_at hl 1 rfl) ?_
      refine va_get (D := (dC, dI)) (ci := 2) (v := .ref adT) (C := R_R) (T := F_R) (N := 4) hx hb hts zi_R hown zz.1 hP 0 rfl rfl 0 (by decide) (hts (.fieldLink R_R 7 "WireCodec$Reader" "tape" "LWireCodec$Tape;") zin_R_7) (fun _ h9 => h9) rfl d_R_takeNumber_40 ?_
      refine lv_aload_n hx hb d_R_takeNumber_43 rfl (lv_at hl 1 rfl) ?_
      refine va_get (D := (dC, dI)) (ci := 2) (v := .int (zR_place sR)) (C := R_R) (T := F_R) (N := 4) hx hb hts zi_R hown zz.1 hP 0 rfl rfl 1 (by decide) (hts (.fieldLink R_R 13 "WireCodec$Reader" "place" "I") zin_R_13) (fun _ h9 => h9) rfl d_R_takeNumber_44 ?_
      refine lv_iload_n hx hb d_R_takeNumber_47 rfl (lv_at hl 0 rfl) ?_
      obtain ⟨a_48, hx_48, hG⟩ := zb hG
      have hr_48 := zrunV (p := p) (e := e) (below := below) (meth := meth) (As := [.int (zR_place sR), .int r_8]) (rest := []) (st0 := [.int r_8, .int (zR_place sR), .ref adT]) (cells := 0) (slots := 0) X zz hP hD hS hA [1, 2] (by decide) rfl (c_T_numberAt l dC dI cB cI cL H.size adT adT_bytes N sT (zR_place sR) r_8 _ hx_48) zy_T_numberAt zv_T_numberAt (hts (.methodLink R_R 42 y_T_numberAt) zin_R_42) hl rfl rfl d_R_takeNumber_48 (lv_room (Nat.le_of_ble_eq_true rfl)) rfl rfl ⟨Nat.le_trans (Nat.le_of_ble_eq_true rfl) hRf, Nat.le_trans (Nat.le_of_ble_eq_true rfl) hRl⟩ ⟨Nat.zero_le _, Nat.zero_le _⟩ 0 1 rfl rfl
      refine zcalll (wr := (zwR adR adT cB cI cL sR)) hr_48 hP hD hS hA [1, 2] [0] rfl rfl (by decide) (by decide) (fun r_48 u_48 H locs hw_48 hP hD hS => ?_)
      subst hw_48
      have hP : va_P (dC, dI) zcl (zwR adR adT cB cI cL sR ++ zwT adT adT_bytes cB cI cL sT) H := hP
      have hD : va_D A (zwR adR adT cB cI cL sR ++ zwT adT adT_bytes cB cI cL sT) := hD
      have hG : g_R_takeNumber_c48 sR r_8 r_48 = some a := hG
      unfold g_R_takeNumber_c48 at hG
      refine lv_lstore_n (lv' := [(2, .long r_48), (1, .int r_8), (0, .ref adR)]) hx hb d_R_takeNumber_51 rfl hl (by decide) rfl (fun ls hl => ?_)
      refine lv_aload_n hx hb d_R_takeNumber_52 rfl (lv_at hl 2 rfl) ?_
      refine lv_dup hx hb d_R_takeNumber_53 rfl ?_
      refine va_get (D := (dC, dI)) (ci := 2) (v := .int (zR_place sR)) (C := R_R) (T := F_R) (N := 4) hx hb hts zi_R hown zz.1 hP 0 rfl rfl 1 (by decide) (hts (.fieldLink R_R 13 "WireCodec$Reader" "place" "I") zin_R_13) (fun _ h9 => h9) rfl d_R_takeNumber_54 ?_
      refine lv_iload_n hx hb d_R_takeNumber_57 rfl (lv_at hl 1 rfl) ?_
      refine lv_iadd hx hb d_R_takeNumber_58 ?_
      refine va_put (D := (dC, dI)) (ci := 2) (v := .int ((zR_place sR) + r_8)) (ty := .int) (C := R_R) (T := F_R) (N := 4) hx hb hts zi_R zty_R zty_R_ok znm_R hown zz.1 hP hD hS 0 rfl rfl 1 (by decide) (hts (.fieldLink R_R 13 "WireCodec$Reader" "place" "I") zin_R_13) (fun _ h9 => h9) rfl (by decide +kernel) rfl rfl (Nat.le_of_ble_eq_true rfl) d_R_takeNumber_59 (fun H locs hP hD hS => ?_)
      have hP : va_P (dC, dI) zcl (zwR adR adT cB cI cL (zR_place' sR ((zR_place sR) + r_8)) ++ zwT adT adT_bytes cB cI cL sT) H := hP
      have hD : va_D A (zwR adR adT cB cI cL (zR_place' sR ((zR_place sR) + r_8)) ++ zwT adT adT_bytes cB cI cL sT) := hD
      have hG : g_R_takeNumber_w59 r_48 (zR_place' sR ((zR_place sR) + r_8)) = some a := hG
      generalize zR_place' sR ((zR_place sR) + r_8) = sR_59 at hP hD hG
      unfold g_R_takeNumber_w59 at hG
      refine lv_lload_n hx hb d_R_takeNumber_62 rfl (lv_at hl 0 rfl) ?_
      exact W.lret (v := r_48) hx hb hr (fun t9 ht9 hW9 => ⟨⟨r_48, (sR_59), rfl, Option.some.inj hG, by rw [ht9]; exact (hP.sub [1, 2, 0] rfl), (hD.sub [1, 2, 0] (by decide) rfl)⟩, hS.F ht9⟩) hS.2.2 d_R_takeNumber_63
    · have hG := zf hG hc
      exact k_R_takeNumber_32 X hA zz N sT sR _ hG adT adT_bytes adR _ _ (hP.sub [1, 2, 0] rfl) (hD.sub [1, 2, 0] (by decide) rfl) hS _ (lv_sub hl [1] rfl)
set_option maxRecDepth 100000 in
set_option maxHeartbeats 4000000 in
theorem c_R_takeNumber (l : Launch) (dC : Nat → ClassId) (dI : Nat → Nat → Nat) (cB cI cL : ClassId) (sz : Nat) (adT adT_bytes adR : Nat) (N : Nat) (sT : zT) (sR : zR) (a : Int64 × zR) (hG : g_R_takeNumber N sT sR = some a) : Met l y_R_takeNumber (zw y_R_takeNumber b_R_takeNumber 4 (some .long)) ({ frames := 2, cells := 0, slots := 0, locals := 47 }) (va_Pc [.ref adR] (zpre dC dI cB cI cL sz (zwT adT adT_bytes cB cI cL sT ++ zwR adR adT cB cI cL sR))) (q_R_takeNumber dC dI cB cI cL (va_A (zwT adT adT_bytes cB cI cL sT ++ zwR adR adT cB cI cL sR) sz) adT adT_bytes adR sT a) 0 0 (va_A (zwT adT adT_bytes cB cI cL sT ++ zwR adR adT cB cI cL sR) sz) := by
  refine Met.ofW (cc := b_R_takeNumber) (maxL := 4) (ret := (some .long)) (by decide) rfl ?_
  intro p e s m args below meth c s₁ B hml hv
  obtain ⟨rfl, hsz, hP, zz, hD0⟩ := hv
  subst hsz
  have X := zx_of (F := 2) (L := 47) B hml (Nat.le_refl _) (Nat.le_refl _)
  have hD := hD0.self (sz := s.heap.size)
  have hA : ∀ q : Nat, s.heap.size ≤ q → va_A (zwT adT adT_bytes cB cI cL sT ++ zwR adR adT cB cI cL sR) s.heap.size q := fun q h => Or.inr h
  have hl := lv_entry ([.ref adR]) (n := 4) (Nat.le_of_ble_eq_true rfl)
  rw [lg_entry_eq]
  generalize (lg_sl ([.ref adR]) ++ List.replicate (4 - (lg_sl ([.ref adR])).length) Slot.unset).toArray = ls at hl ⊢
  exact k_R_takeNumber_0 X hA zz N sT sR a hG adT adT_bytes adR _ _ hP hD va_S.rf ls hl
noncomputable def g_R_numberOfAll_20 (N : Nat) (sT : zT) (sR : zR) : Option (Int64) := some ((-1 : Int64))
noncomputable def g_R_numberOfAll_c31 (r_31 : Int64) : Option (Int64) := some (r_31)
noncomputable def g_R_numberOfAll_c11 (N : Nat) (sT : zT) (sR : zR) (v1 : Int32) (v2 : Int64) (r_11 : Int32) : Option (Int64) := if (lg_cmp r_11.toInt64 v2) = (0 : Int32) then ((g_T_numberAt N sT v1 v2.toInt32).bind (fun a => g_R_numberOfAll_c31 a)) else (g_R_numberOfAll_20 N sT sR)
noncomputable def g_R_numberOfAll (N : Nat) (sT : zT) (sR : zR) (v1 : Int32) (v2 : Int64) : Option (Int64) := if (lg_cmp v2 (1 : Int64)) < (0 : Int32) then (g_R_numberOfAll_20 N sT sR) else ((g_T_numberBytesAt sT v1).bind (fun a => g_R_numberOfAll_c11 N sT sR v1 v2 a))
def q_R_numberOfAll (dC : Nat → ClassId) (dI : Nat → Nat → Nat) (cB cI cL : ClassId) (A : Nat → Prop) (adT : Nat) (adT_bytes : Nat) (adR : Nat) (sT : zT) (sR : zR) (a : Int64) : Array Value → State → Outcome → State → Prop := va_Ql (fun (r : Int64) (u : Unit) => (r) = a) (fun u U => va_P (dC, dI) zcl (zwT adT adT_bytes cB cI cL sT ++ zwR adR adT cB cI cL sR) U.heap ∧ va_D A (zwT adT adT_bytes cB cI cL sT ++ zwR adR adT cB cI cL sR)) A
set_option maxRecDepth 100000 in
set_option maxHeartbeats 4000000 in
theorem k_R_numberOfAll_20 {p : Program} {l : Launch} {e : Env} {R : Room} {s : State} {m : MethodId} {args : Array Value} {below : List Frame} {meth : Method} {c : Code} {dC : Nat → ClassId} {dI : Nat → Nat → Nat} {cB cI cL : ClassId} {A : Nat → Prop} (X : zx p s m args meth c R R_R b_R_numberOfAll (some .long) 4 2 47) (hA : ∀ q, s.heap.size ≤ q → A q) (zz : zk dC dI cB cI cL A s)  (N : Nat) (sT : zT) (sR : zR) (a : Int64) (hG : g_R_numberOfAll_20 N sT sR = some a) (adT adT_bytes adR : Nat) (H : Heap) (locs : List Loc) (hP : va_P (dC, dI) zcl (zwT adT adT_bytes cB cI cL sT ++ zwR adR adT cB cI cL sR) H) (hD : va_D A (zwT adT adT_bytes cB cI cL sT ++ zwR adR adT cB cI cL sR)) (hS : va_S A s.heap H locs) (ls : Array Slot) (hl : lv_has ls 4 []) : W p l e R s m args below meth c H locs 0 0 (MQ below (q_R_numberOfAll dC dI cB cI cL A adT adT_bytes adR sT sR a) args s 0 0 A) (F0 m 20 ls []) := by
  obtain ⟨hx, hb, hr, hml, hown, hts, hlocks, hRf, hRl⟩ := id X
  unfold g_R_numberOfAll_20 at hG
  refine lv_ldc2 (v := (-1 : Int64)) hx hb hown (hts (.constantLong R_R 45 (-1 : Int64)) zin_R_45) d_R_numberOfAll_20 ?_
  exact W.lret (v := (-1 : Int64)) hx hb hr (fun t9 ht9 hW9 => ⟨⟨(-1 : Int64), (), rfl, Option.some.inj hG, by rw [ht9]; exact hP, hD⟩, hS.F ht9⟩) hS.2.2 d_R_numberOfAll_23
set_option maxRecDepth 100000 in
set_option maxHeartbeats 4000000 in
theorem k_R_numberOfAll_0 {p : Program} {l : Launch} {e : Env} {R : Room} {s : State} {m : MethodId} {args : Array Value} {below : List Frame} {meth : Method} {c : Code} {dC : Nat → ClassId} {dI : Nat → Nat → Nat} {cB cI cL : ClassId} {A : Nat → Prop} (X : zx p s m args meth c R R_R b_R_numberOfAll (some .long) 4 2 47) (hA : ∀ q, s.heap.size ≤ q → A q) (zz : zk dC dI cB cI cL A s)  (N : Nat) (sT : zT) (sR : zR) (v1 : Int32) (v2 : Int64) (a : Int64) (hG : g_R_numberOfAll N sT sR v1 v2 = some a) (adT adT_bytes adR : Nat) (H : Heap) (locs : List Loc) (hP : va_P (dC, dI) zcl (zwT adT adT_bytes cB cI cL sT ++ zwR adR adT cB cI cL sR) H) (hD : va_D A (zwT adT adT_bytes cB cI cL sT ++ zwR adR adT cB cI cL sR)) (hS : va_S A s.heap H locs) (ls : Array Slot) (hl : lv_has ls 4 [(0, .ref adR), (1, .int v1), (2, .long v2)]) : W p l e R s m args below meth c H locs 0 0 (MQ below (q_R_numberOfAll dC dI cB cI cL A adT adT_bytes adR sT sR a) args s 0 0 A) (F0 m 0 ls []) := by
  obtain ⟨hx, hb, hr, hml, hown, hts, hlocks, hRf, hRl⟩ := id X
  unfold g_R_numberOfAll at hG
  refine lv_lload_n hx hb d_R_numberOfAll_0 rfl (lv_at hl 2 rfl) ?_
  refine lv_lconst (v := (1 : Int64)) hx hb d_R_numberOfAll_1 (by decide) ?_
  refine W.lcmp hx hb d_R_numberOfAll_2 ?_
  refine lv_if_lt (tgt := 20) hx hb d_R_numberOfAll_3 (by decide) (fun hc => ?_) (fun hc => ?_)
  · have hG := zt hG hc
    exact k_R_numberOfAll_20 X hA zz N sT sR _ hG adT adT_bytes adR _ _ hP hD hS _ (lv_sub hl [] rfl)
  · have hG := zf hG hc
    refine lv_aload_n hx hb d_R_numberOfAll_6 rfl (lv_at hl 0 rfl) ?_
    refine va_get (D := (dC, dI)) (ci := 2) (v := .ref adT) (C := R_R) (T := F_R) (N := 4) hx hb hts zi_R hown zz.1 hP 2 rfl rfl 0 (by decide) (hts (.fieldLink R_R 7 "WireCodec$Reader" "tape" "LWireCodec$Tape;") zin_R_7) (fun _ h9 => h9) rfl d_R_numberOfAll_7 ?_
    refine lv_iload_n hx hb d_R_numberOfAll_10 rfl (lv_at hl 1 rfl) ?_
    obtain ⟨a_11, hx_11, hG⟩ := zb hG
    have hr_11 := zrunV (p := p) (e := e) (below := below) (meth := meth) (As := [.int v1]) (rest := []) (st0 := [.int v1, .ref adT]) (cells := 0) (slots := 0) X zz hP hD hS hA [0, 1] (by decide) rfl (c_T_numberBytesAt l dC dI cB cI cL H.size adT adT_bytes sT v1 _ hx_11) zy_T_numberBytesAt zv_T_numberBytesAt (hts (.methodLink R_R 38 y_T_numberBytesAt) zin_R_38) hl rfl rfl d_R_numberOfAll_11 (lv_room (Nat.le_of_ble_eq_true rfl)) rfl rfl ⟨Nat.le_trans (Nat.le_of_ble_eq_true rfl) hRf, Nat.le_trans (Nat.le_of_ble_eq_true rfl) hRl⟩ ⟨Nat.zero_le _, Nat.zero_le _⟩ 0 1 rfl rfl
    refine zcalli (wr := (zwR adR adT cB cI cL sR)) hr_11 hP hD hS hA [0, 1] [2] rfl rfl (by decide) (by decide) (fun r_11 u_11 H locs hw_11 hP hD hS => ?_)
    subst hw_11
    have hP : va_P (dC, dI) zcl (zwR adR adT cB cI cL sR ++ zwT adT adT_bytes cB cI cL sT) H := hP
    have hD : va_D A (zwR adR adT cB cI cL sR ++ zwT adT adT_bytes cB cI cL sT) := hD
    have hG : g_R_numberOfAll_c11 N sT sR v1 v2 r_11 = some a := hG
    unfold g_R_numberOfAll_c11 at hG
    refine lv_i2l hx hb d_R_numberOfAll_14 rfl ?_
    refine lv_lload_n hx hb d_R_numberOfAll_15 rfl (lv_at hl 2 rfl) ?_
    refine W.lcmp hx hb d_R_numberOfAll_16 ?_
    refine lv_if_eq (tgt := 24) hx hb d_R_numberOfAll_17 (by decide) (fun hc => ?_) (fun hc => ?_)
    · have hG := zt hG hc
      refine lv_aload_n hx hb d_R_numberOfAll_24 rfl (lv_at hl 0 rfl) ?_
      refine va_get (D := (dC, dI)) (ci := 2) (v := .ref adT) (C := R_R) (T := F_R) (N := 4) hx hb hts zi_R hown zz.1 hP 0 rfl rfl 0 (by decide) (hts (.fieldLink R_R 7 "WireCodec$Reader" "tape" "LWireCodec$Tape;") zin_R_7) (fun _ h9 => h9) rfl d_R_numberOfAll_25 ?_
      refine lv_iload_n hx hb d_R_numberOfAll_28 rfl (lv_at hl 1 rfl) ?_
      refine lv_lload_n hx hb d_R_numberOfAll_29 rfl (lv_at hl 2 rfl) ?_
      refine lv_l2i hx hb d_R_numberOfAll_30 rfl ?_
      obtain ⟨a_31, hx_31, hG⟩ := zb hG
      have hr_31 := zrunV (p := p) (e := e) (below := below) (meth := meth) (As := [.int v1, .int v2.toInt32]) (rest := []) (st0 := [.int v2.toInt32, .int v1, .ref adT]) (cells := 0) (slots := 0) X zz hP hD hS hA [1, 2] (by decide) rfl (c_T_numberAt l dC dI cB cI cL H.size adT adT_bytes N sT v1 v2.toInt32 _ hx_31) zy_T_numberAt zv_T_numberAt (hts (.methodLink R_R 42 y_T_numberAt) zin_R_42) hl rfl rfl d_R_numberOfAll_31 (lv_room (Nat.le_of_ble_eq_true rfl)) rfl rfl ⟨Nat.le_trans (Nat.le_of_ble_eq_true rfl) hRf, Nat.le_trans (Nat.le_of_ble_eq_true rfl) hRl⟩ ⟨Nat.zero_le _, Nat.zero_le _⟩ 0 1 rfl rfl
      refine zcalll (wr := (zwR adR adT cB cI cL sR)) hr_31 hP hD hS hA [1, 2] [0] rfl rfl (by decide) (by decide) (fun r_31 u_31 H locs hw_31 hP hD hS => ?_)
      subst hw_31
      have hP : va_P (dC, dI) zcl (zwR adR adT cB cI cL sR ++ zwT adT adT_bytes cB cI cL sT) H := hP
      have hD : va_D A (zwR adR adT cB cI cL sR ++ zwT adT adT_bytes cB cI cL sT) := hD
      have hG : g_R_numberOfAll_c31 r_31 = some a := hG
      unfold g_R_numberOfAll_c31 at hG
      exact W.lret (v := r_31) hx hb hr (fun t9 ht9 hW9 => ⟨⟨r_31, (), rfl, Option.some.inj hG, by rw [ht9]; exact (hP.sub [1, 2, 0] rfl), (hD.sub [1, 2, 0] (by decide) rfl)⟩, hS.F ht9⟩) hS.2.2 d_R_numberOfAll_34
    · have hG := zf hG hc
      exact k_R_numberOfAll_20 X hA zz N sT sR _ hG adT adT_bytes adR _ _ (hP.sub [1, 2, 0] rfl) (hD.sub [1, 2, 0] (by decide) rfl) hS _ (lv_sub hl [] rfl)
set_option maxRecDepth 100000 in
set_option maxHeartbeats 4000000 in
theorem c_R_numberOfAll (l : Launch) (dC : Nat → ClassId) (dI : Nat → Nat → Nat) (cB cI cL : ClassId) (sz : Nat) (adT adT_bytes adR : Nat) (N : Nat) (sT : zT) (sR : zR) (v1 : Int32) (v2 : Int64) (a : Int64) (hG : g_R_numberOfAll N sT sR v1 v2 = some a) : Met l y_R_numberOfAll (zw y_R_numberOfAll b_R_numberOfAll 4 (some .long)) ({ frames := 2, cells := 0, slots := 0, locals := 47 }) (va_Pc [.ref adR, .int v1, .long v2] (zpre dC dI cB cI cL sz (zwT adT adT_bytes cB cI cL sT ++ zwR adR adT cB cI cL sR))) (q_R_numberOfAll dC dI cB cI cL (va_A (zwT adT adT_bytes cB cI cL sT ++ zwR adR adT cB cI cL sR) sz) adT adT_bytes adR sT sR a) 0 0 (va_A (zwT adT adT_bytes cB cI cL sT ++ zwR adR adT cB cI cL sR) sz) := by
  refine Met.ofW (cc := b_R_numberOfAll) (maxL := 4) (ret := (some .long)) (by decide) rfl ?_
  intro p e s m args below meth c s₁ B hml hv
  obtain ⟨rfl, hsz, hP, zz, hD0⟩ := hv
  subst hsz
  have X := zx_of (F := 2) (L := 47) B hml (Nat.le_refl _) (Nat.le_refl _)
  have hD := hD0.self (sz := s.heap.size)
  have hA : ∀ q : Nat, s.heap.size ≤ q → va_A (zwT adT adT_bytes cB cI cL sT ++ zwR adR adT cB cI cL sR) s.heap.size q := fun q h => Or.inr h
  have hl := lv_entry ([.ref adR, .int v1, .long v2]) (n := 4) (Nat.le_of_ble_eq_true rfl)
  rw [lg_entry_eq]
  generalize (lg_sl ([.ref adR, .int v1, .long v2]) ++ List.replicate (4 - (lg_sl ([.ref adR, .int v1, .long v2])).length) Slot.unset).toArray = ls at hl ⊢
  exact k_R_numberOfAll_0 X hA zz N sT sR v1 v2 a hG adT adT_bytes adR _ _ hP hD va_S.rf ls hl
noncomputable def g_G_keepFrame_w16 (sG_16 : zG) : Option ((zG) × Nat × Nat) := some ((sG_16), 0, 0)
noncomputable def g_G_keepFrame_c6 (sG_6 : zG) : Option ((zG) × Nat × Nat) := g_G_keepFrame_w16 (zG_frameCount' sG_6 ((zG_frameCount sG_6) + (1 : Int32)))
noncomputable def g_G_keepFrame (sG : zG) (v1 : Int32) : Option ((zG) × Nat × Nat) := zcbd (g_G_keepPlace sG (zG_frameCount sG) v1) (fun a => g_G_keepFrame_c6 a)
def q_G_keepFrame (dC : Nat → ClassId) (dI : Nat → Nat → Nat) (cB cI cL : ClassId) (A : Nat → Prop) (adG : Nat) (a : zG) : Array Value → State → Outcome → State → Prop := va_Qv (fun (u : zG × Nat) => (u.1) = a) (fun u U => va_P (dC, dI) zcl (zwG adG u.2 cB cI cL u.1) U.heap ∧ va_D A (zwG adG u.2 cB cI cL u.1)) A
set_option maxRecDepth 100000 in
set_option maxHeartbeats 4000000 in
theorem k_G_keepFrame_0 {p : Program} {l : Launch} {e : Env} {R : Room} {s : State} {m : MethodId} {args : Array Value} {below : List Frame} {meth : Method} {c : Code} {dC : Nat → ClassId} {dI : Nat → Nat → Nat} {cB cI cL : ClassId} {A : Nat → Prop} (X : zx p s m args meth c R R_G b_G_keepFrame none 2 3 104) (hA : ∀ q, s.heap.size ≤ q → A q) (zz : zk dC dI cB cI cL A s)  (sG : zG) (v1 : Int32) (a : zG) (c9 z9 cells slots tc tz : Nat) (hG : g_G_keepFrame sG v1 = some (a, c9, z9)) (kc : cells + c9 = tc) (kz : slots + z9 = tz) (hRc : tc ≤ R.cells) (hRz : tz ≤ R.slots) (adG adG_places : Nat) (H : Heap) (locs : List Loc) (hP : va_P (dC, dI) zcl (zwG adG adG_places cB cI cL sG) H) (hD : va_D A (zwG adG adG_places cB cI cL sG)) (hS : va_S A s.heap H locs) (ls : Array Slot) (hl : lv_has ls 2 [(0, .ref adG), (1, .int v1)]) : W p l e R s m args below meth c H locs cells slots (MQ below (q_G_keepFrame dC dI cB cI cL A adG a) args s tc tz A) (F0 m 0 ls []) := by
  obtain ⟨hx, hb, hr, hml, hown, hts, hlocks, hRf, hRl⟩ := id X
  unfold g_G_keepFrame at hG
  refine lv_aload_n hx hb d_G_keepFrame_0 rfl (lv_at hl 0 rfl) ?_
  refine lv_aload_n hx hb d_G_keepFrame_1 rfl (lv_at hl 0 rfl) ?_
  refine va_get (D := (dC, dI)) (ci := 3) (v := .int (zG_frameCount sG)) (C := R_G) (T := F_G) (N := 7) hx hb hts zi_G hown zz.1 hP 0 rfl rfl 1 (by decide) (hts (.fieldLink R_G 19 "WireCodec$Reading" "frameCount" "I") zin_G_19) (fun _ h9 => h9) rfl d_G_keepFrame_2 ?_
  refine lv_iload_n hx hb d_G_keepFrame_5 rfl (lv_at hl 1 rfl) ?_
  obtain ⟨a_6, c_6, z_6, c9, z9, hx_6, hG, kc, kz⟩ := zcbde hG kc kz
  have hr_6 := zrunV (p := p) (e := e) (below := below) (meth := meth) (As := [.int (zG_frameCount sG), .int v1]) (rest := []) (st0 := [.int v1, .int (zG_frameCount sG), .ref adG]) (cells := cells) (slots := slots) X zz hP hD hS hA [0, 1] (by decide) rfl (c_G_keepPlace l dC dI cB cI cL H.size adG adG_places sG (zG_frameCount sG) v1 _ _ _ hx_6) zy_G_keepPlace zv_G_keepPlace (hts (.methodLink R_G 34 y_G_keepPlace) zin_G_34) hl rfl rfl d_G_keepFrame_6 (lv_room (Nat.le_of_ble_eq_true rfl)) rfl rfl ⟨Nat.le_trans (Nat.le_of_ble_eq_true rfl) hRf, Nat.le_trans (Nat.le_of_ble_eq_true rfl) hRl⟩ ⟨zle kc hRc, zle kz hRz⟩ 0 3 rfl rfl
  refine zcallv (wr := ([] : va_W)) hr_6 hP hD hS hA [0, 1] [] rfl rfl (by decide) (by decide) (fun u_6 H locs hw_6 hP hD hS => ?_)
  obtain ⟨sG_6, qG_places_6⟩ := u_6
  subst hw_6
  have hP : va_P (dC, dI) zcl (zwG adG qG_places_6 cB cI cL sG_6) H := hP
  have hD : va_D A (zwG adG qG_places_6 cB cI cL sG_6) := hD
  have hG : g_G_keepFrame_c6 sG_6 = some (a, c9, z9) := hG
  unfold g_G_keepFrame_c6 at hG
  generalize cells + c_6 = cells at kc ⊢
  generalize slots + z_6 = slots at kz ⊢
  refine lv_aload_n hx hb d_G_keepFrame_9 rfl (lv_at hl 0 rfl) ?_
  refine lv_dup hx hb d_G_keepFrame_10 rfl ?_
  refine va_get (D := (dC, dI)) (ci := 3) (v := .int (zG_frameCount sG_6)) (C := R_G) (T := F_G) (N := 7) hx hb hts zi_G hown zz.1 hP 0 rfl rfl 1 (by decide) (hts (.fieldLink R_G 19 "WireCodec$Reading" "frameCount" "I") zin_G_19) (fun _ h9 => h9) rfl d_G_keepFrame_11 ?_
  refine lv_iconst (v := (1 : Int32)) hx hb d_G_keepFrame_14 (by decide) ?_
  refine lv_iadd hx hb d_G_keepFrame_15 ?_
  refine va_put (D := (dC, dI)) (ci := 3) (v := .int ((zG_frameCount sG_6) + (1 : Int32))) (ty := .int) (C := R_G) (T := F_G) (N := 7) hx hb hts zi_G zty_G zty_G_ok znm_G hown zz.1 hP hD hS 0 rfl rfl 1 (by decide) (hts (.fieldLink R_G 19 "WireCodec$Reading" "frameCount" "I") zin_G_19) (fun _ h9 => h9) rfl (by decide +kernel) rfl rfl (Nat.le_of_ble_eq_true rfl) d_G_keepFrame_16 (fun H locs hP hD hS => ?_)
  have hP : va_P (dC, dI) zcl (zwG adG qG_places_6 cB cI cL (zG_frameCount' sG_6 ((zG_frameCount sG_6) + (1 : Int32)))) H := hP
  have hD : va_D A (zwG adG qG_places_6 cB cI cL (zG_frameCount' sG_6 ((zG_frameCount sG_6) + (1 : Int32)))) := hD
  have hG : g_G_keepFrame_w16 (zG_frameCount' sG_6 ((zG_frameCount sG_6) + (1 : Int32))) = some (a, c9, z9) := hG
  generalize zG_frameCount' sG_6 ((zG_frameCount sG_6) + (1 : Int32)) = sG_16 at hP hD hG
  unfold g_G_keepFrame_w16 at hG
  obtain ⟨hG, e91, e92⟩ := zc0 hG
  refine W.widen (k := tc) (n := tz) (Nat.le.intro kc) (Nat.le.intro kz) ?_
  exact W.vret hx hb hr (fun t9 ht9 hW9 => ⟨⟨(sG_16, qG_places_6), rfl, hG, by rw [ht9]; exact hP, hD⟩, hS.F ht9⟩) hS.2.2 d_G_keepFrame_19
set_option maxRecDepth 100000 in
set_option maxHeartbeats 4000000 in
theorem c_G_keepFrame (l : Launch) (dC : Nat → ClassId) (dI : Nat → Nat → Nat) (cB cI cL : ClassId) (sz : Nat) (adG adG_places : Nat) (sG : zG) (v1 : Int32) (a : zG) (c9 z9 : Nat) (hG : g_G_keepFrame sG v1 = some (a, c9, z9)) : Met l y_G_keepFrame (zw y_G_keepFrame b_G_keepFrame 2 none) ({ frames := 3, cells := c9, slots := z9, locals := 104 }) (va_Pc [.ref adG, .int v1] (zpre dC dI cB cI cL sz (zwG adG adG_places cB cI cL sG))) (q_G_keepFrame dC dI cB cI cL (va_A (zwG adG adG_places cB cI cL sG) sz) adG a) c9 z9 (va_A (zwG adG adG_places cB cI cL sG) sz) := by
  refine Met.ofW (cc := b_G_keepFrame) (maxL := 2) (ret := none) (by decide) rfl ?_
  intro p e s m args below meth c s₁ B hml hv
  obtain ⟨rfl, hsz, hP, zz, hD0⟩ := hv
  subst hsz
  have X := zx_of (F := 3) (L := 104) B hml (Nat.le_refl _) (Nat.le_refl _)
  have hD := hD0.self (sz := s.heap.size)
  have hA : ∀ q : Nat, s.heap.size ≤ q → va_A (zwG adG adG_places cB cI cL sG) s.heap.size q := fun q h => Or.inr h
  have hl := lv_entry ([.ref adG, .int v1]) (n := 2) (Nat.le_of_ble_eq_true rfl)
  rw [lg_entry_eq]
  generalize (lg_sl ([.ref adG, .int v1]) ++ List.replicate (2 - (lg_sl ([.ref adG, .int v1])).length) Slot.unset).toArray = ls at hl ⊢
  exact k_G_keepFrame_0 X hA zz sG v1 a c9 z9 0 0 c9 z9 hG (Nat.zero_add _) (Nat.zero_add _) (Nat.le_refl _) (Nat.le_refl _) adG adG_places _ _ hP hD va_S.rf ls hl
noncomputable def g_G_keepPacket_w16 (sG_16 : zG) : Option ((zG) × Nat × Nat) := some ((sG_16), 0, 0)
noncomputable def g_G_keepPacket_c6 (sG_6 : zG) : Option ((zG) × Nat × Nat) := g_G_keepPacket_w16 (zG_packetCount' sG_6 ((zG_packetCount sG_6) + (1 : Int32)))
noncomputable def g_G_keepPacket (sG : zG) (v1 : Int32) : Option ((zG) × Nat × Nat) := zcbd (g_G_keepPlace sG (zG_packetCount sG) v1) (fun a => g_G_keepPacket_c6 a)
def q_G_keepPacket (dC : Nat → ClassId) (dI : Nat → Nat → Nat) (cB cI cL : ClassId) (A : Nat → Prop) (adG : Nat) (a : zG) : Array Value → State → Outcome → State → Prop := va_Qv (fun (u : zG × Nat) => (u.1) = a) (fun u U => va_P (dC, dI) zcl (zwG adG u.2 cB cI cL u.1) U.heap ∧ va_D A (zwG adG u.2 cB cI cL u.1)) A
set_option maxRecDepth 100000 in
set_option maxHeartbeats 4000000 in
theorem k_G_keepPacket_0 {p : Program} {l : Launch} {e : Env} {R : Room} {s : State} {m : MethodId} {args : Array Value} {below : List Frame} {meth : Method} {c : Code} {dC : Nat → ClassId} {dI : Nat → Nat → Nat} {cB cI cL : ClassId} {A : Nat → Prop} (X : zx p s m args meth c R R_G b_G_keepPacket none 2 3 104) (hA : ∀ q, s.heap.size ≤ q → A q) (zz : zk dC dI cB cI cL A s)  (sG : zG) (v1 : Int32) (a : zG) (c9 z9 cells slots tc tz : Nat) (hG : g_G_keepPacket sG v1 = some (a, c9, z9)) (kc : cells + c9 = tc) (kz : slots + z9 = tz) (hRc : tc ≤ R.cells) (hRz : tz ≤ R.slots) (adG adG_places : Nat) (H : Heap) (locs : List Loc) (hP : va_P (dC, dI) zcl (zwG adG adG_places cB cI cL sG) H) (hD : va_D A (zwG adG adG_places cB cI cL sG)) (hS : va_S A s.heap H locs) (ls : Array Slot) (hl : lv_has ls 2 [(0, .ref adG), (1, .int v1)]) : W p l e R s m args below meth c H locs cells slots (MQ below (q_G_keepPacket dC dI cB cI cL A adG a) args s tc tz A) (F0 m 0 ls []) := by
  obtain ⟨hx, hb, hr, hml, hown, hts, hlocks, hRf, hRl⟩ := id X
  unfold g_G_keepPacket at hG
  refine lv_aload_n hx hb d_G_keepPacket_0 rfl (lv_at hl 0 rfl) ?_
  refine lv_aload_n hx hb d_G_keepPacket_1 rfl (lv_at hl 0 rfl) ?_
  refine va_get (D := (dC, dI)) (ci := 3) (v := .int (zG_packetCount sG)) (C := R_G) (T := F_G) (N := 7) hx hb hts zi_G hown zz.1 hP 0 rfl rfl 2 (by decide) (hts (.fieldLink R_G 22 "WireCodec$Reading" "packetCount" "I") zin_G_22) (fun _ h9 => h9) rfl d_G_keepPacket_2 ?_
  refine lv_iload_n hx hb d_G_keepPacket_5 rfl (lv_at hl 1 rfl) ?_
  obtain ⟨a_6, c_6, z_6, c9, z9, hx_6, hG, kc, kz⟩ := zcbde hG kc kz
  have hr_6 := zrunV (p := p) (e := e) (below := below) (meth := meth) (As := [.int (zG_packetCount sG), .int v1]) (rest := []) (st0 := [.int v1, .int (zG_packetCount sG), .ref adG]) (cells := cells) (slots := slots) X zz hP hD hS hA [0, 1] (by decide) rfl (c_G_keepPlace l dC dI cB cI cL H.size adG adG_places sG (zG_packetCount sG) v1 _ _ _ hx_6) zy_G_keepPlace zv_G_keepPlace (hts (.methodLink R_G 34 y_G_keepPlace) zin_G_34) hl rfl rfl d_G_keepPacket_6 (lv_room (Nat.le_of_ble_eq_true rfl)) rfl rfl ⟨Nat.le_trans (Nat.le_of_ble_eq_true rfl) hRf, Nat.le_trans (Nat.le_of_ble_eq_true rfl) hRl⟩ ⟨zle kc hRc, zle kz hRz⟩ 0 3 rfl rfl
  refine zcallv (wr := ([] : va_W)) hr_6 hP hD hS hA [0, 1] [] rfl rfl (by decide) (by decide) (fun u_6 H locs hw_6 hP hD hS => ?_)
  obtain ⟨sG_6, qG_places_6⟩ := u_6
  subst hw_6
  have hP : va_P (dC, dI) zcl (zwG adG qG_places_6 cB cI cL sG_6) H := hP
  have hD : va_D A (zwG adG qG_places_6 cB cI cL sG_6) := hD
  have hG : g_G_keepPacket_c6 sG_6 = some (a, c9, z9) := hG
  unfold g_G_keepPacket_c6 at hG
  generalize cells + c_6 = cells at kc ⊢
  generalize slots + z_6 = slots at kz ⊢
  refine lv_aload_n hx hb d_G_keepPacket_9 rfl (lv_at hl 0 rfl) ?_
  refine lv_dup hx hb d_G_keepPacket_10 rfl ?_
  refine va_get (D := (dC, dI)) (ci := 3) (v := .int (zG_packetCount sG_6)) (C := R_G) (T := F_G) (N := 7) hx hb hts zi_G hown zz.1 hP 0 rfl rfl 2 (by decide) (hts (.fieldLink R_G 22 "WireCodec$Reading" "packetCount" "I") zin_G_22) (fun _ h9 => h9) rfl d_G_keepPacket_11 ?_
  refine lv_iconst (v := (1 : Int32)) hx hb d_G_keepPacket_14 (by decide) ?_
  refine lv_iadd hx hb d_G_keepPacket_15 ?_
  refine va_put (D := (dC, dI)) (ci := 3) (v := .int ((zG_packetCount sG_6) + (1 : Int32))) (ty := .int) (C := R_G) (T := F_G) (N := 7) hx hb hts zi_G zty_G zty_G_ok znm_G hown zz.1 hP hD hS 0 rfl rfl 2 (by decide) (hts (.fieldLink R_G 22 "WireCodec$Reading" "packetCount" "I") zin_G_22) (fun _ h9 => h9) rfl (by decide +kernel) rfl rfl (Nat.le_of_ble_eq_true rfl) d_G_keepPacket_16 (fun H locs hP hD hS => ?_)
  have hP : va_P (dC, dI) zcl (zwG adG qG_places_6 cB cI cL (zG_packetCount' sG_6 ((zG_packetCount sG_6) + (1 : Int32)))) H := hP
  have hD : va_D A (zwG adG qG_places_6 cB cI cL (zG_packetCount' sG_6 ((zG_packetCount sG_6) + (1 : Int32)))) := hD
  have hG : g_G_keepPacket_w16 (zG_packetCount' sG_6 ((zG_packetCount sG_6) + (1 : Int32))) = some (a, c9, z9) := hG
  generalize zG_packetCount' sG_6 ((zG_packetCount sG_6) + (1 : Int32)) = sG_16 at hP hD hG
  unfold g_G_keepPacket_w16 at hG
  obtain ⟨hG, e91, e92⟩ := zc0 hG
  refine W.widen (k := tc) (n := tz) (Nat.le.intro kc) (Nat.le.intro kz) ?_
  exact W.vret hx hb hr (fun t9 ht9 hW9 => ⟨⟨(sG_16, qG_places_6), rfl, hG, by rw [ht9]; exact hP, hD⟩, hS.F ht9⟩) hS.2.2 d_G_keepPacket_19
set_option maxRecDepth 100000 in
set_option maxHeartbeats 4000000 in
theorem c_G_keepPacket (l : Launch) (dC : Nat → ClassId) (dI : Nat → Nat → Nat) (cB cI cL : ClassId) (sz : Nat) (adG adG_places : Nat) (sG : zG) (v1 : Int32) (a : zG) (c9 z9 : Nat) (hG : g_G_keepPacket sG v1 = some (a, c9, z9)) : Met l y_G_keepPacket (zw y_G_keepPacket b_G_keepPacket 2 none) ({ frames := 3, cells := c9, slots := z9, locals := 104 }) (va_Pc [.ref adG, .int v1] (zpre dC dI cB cI cL sz (zwG adG adG_places cB cI cL sG))) (q_G_keepPacket dC dI cB cI cL (va_A (zwG adG adG_places cB cI cL sG) sz) adG a) c9 z9 (va_A (zwG adG adG_places cB cI cL sG) sz) := by
  refine Met.ofW (cc := b_G_keepPacket) (maxL := 2) (ret := none) (by decide) rfl ?_
  intro p e s m args below meth c s₁ B hml hv
  obtain ⟨rfl, hsz, hP, zz, hD0⟩ := hv
  subst hsz
  have X := zx_of (F := 3) (L := 104) B hml (Nat.le_refl _) (Nat.le_refl _)
  have hD := hD0.self (sz := s.heap.size)
  have hA : ∀ q : Nat, s.heap.size ≤ q → va_A (zwG adG adG_places cB cI cL sG) s.heap.size q := fun q h => Or.inr h
  have hl := lv_entry ([.ref adG, .int v1]) (n := 2) (Nat.le_of_ble_eq_true rfl)
  rw [lg_entry_eq]
  generalize (lg_sl ([.ref adG, .int v1]) ++ List.replicate (2 - (lg_sl ([.ref adG, .int v1])).length) Slot.unset).toArray = ls at hl ⊢
  exact k_G_keepPacket_0 X hA zz sG v1 a c9 z9 0 0 c9 z9 hG (Nat.zero_add _) (Nat.zero_add _) (Nat.le_refl _) (Nat.le_refl _) adG adG_places _ _ hP hD va_S.rf ls hl
noncomputable def g_W_read_45 (N : Nat) (sT : zT) (sR : zR) (s0 : Int64) : Option ((Int64 ⊕ Nat) × zR) := some (.inl s0, sR)
noncomputable def g_W_read_c24 (N : Nat) (sT : zT) (sR_24 : zR) (r_24 : Int64) : Option ((Int64 ⊕ Nat) × zR) := if (zR_over sR_24) = (0 : Int32) then (g_W_read_45 N sT sR_24 r_24) else (g_W_read_45 N sT sR_24 (-1 : Int64))
noncomputable def g_W_read_c17 (N : Nat) (sT : zT) (sR_17 : zR) : Option ((Int64 ⊕ Nat) × zR) := (g_R_takeNumber N sT sR_17).bind (fun a => g_W_read_c24 N sT a.2 a.1)
noncomputable def g_W_read_c2 (N : Nat) (sT : zT) (sR : zR) (v1 : Int32) : Option ((Int64 ⊕ Nat) × zR) := (g_R_start sR v1 (zT_length sT)).bind (fun a => g_W_read_c17 N sT a)
noncomputable def g_W_read (N : Nat) (sT : zT) (sR : zR) (v1 : Int32) : Option ((Int64 ⊕ Nat) × zR) := (g_W_requireByte sT v1).bind (fun a => zmx (a) (fun r9 => g_W_read_c2 N sT sR v1) (fun k9 => some (.inr k9, sR)))
def q_W_read (dC : Nat → ClassId) (dI : Nat → Nat → Nat) (cB cI cL : ClassId) (A : Nat → Prop) (adW : Nat) (adT : Nat) (adT_bytes : Nat) (adR : Nat) (adG : Nat) (adF : Nat) (adH : Nat) (adD : Nat) (adP : Nat) (sT : zT) (a : (Int64 ⊕ Nat) × zR) : Array Value → State → Outcome → State → Prop := zQx (α := Int64) (fun r => some (.long r)) (fun r (u : zR) => (r, u) = a) (dC, dI) (fun u => (zwW adW adT adR adG adF adH adD adP ++ zwT adT adT_bytes cB cI cL sT ++ zwR adR adT cB cI cL u)) A
set_option maxRecDepth 100000 in
set_option maxHeartbeats 4000000 in
theorem k_W_read_45 {p : Program} {l : Launch} {e : Env} {R : Room} {s : State} {m : MethodId} {args : Array Value} {below : List Frame} {meth : Method} {c : Code} {dC : Nat → ClassId} {dI : Nat → Nat → Nat} {cB cI cL : ClassId} {A : Nat → Prop} {adG adF adH adD adP : Nat} (X : zx p s m args meth c R R_W b_W_read (some .long) 4 7 119) (hA : ∀ q, s.heap.size ≤ q → A q) (zz : zk dC dI cB cI cL A s) (htr : l.stackTraces = false) (hnh : c.exceptionTable.isEmpty = true) (hAs : ∀ q, A q → ∀ cell, s.heap[q]? = some cell → cell.vm.isStatics = false) (hRc : 1 ≤ R.cells) (hRz : 6 ≤ R.slots)  (N : Nat) (sT : zT) (sR : zR) (s0 : Int64) (a : (Int64 ⊕ Nat) × zR) (hG : g_W_read_45 N sT sR s0 = some a) (adW adT adT_bytes adR : Nat) (H : Heap) (locs : List Loc) (hP : va_P (dC, dI) zcl (zwW adW adT adR adG adF adH adD adP ++ zwT adT adT_bytes cB cI cL sT ++ zwR adR adT cB cI cL sR) H) (hD : va_D A (zwW adW adT adR adG adF adH adD adP ++ zwT adT adT_bytes cB cI cL sT ++ zwR adR adT cB cI cL sR)) (hS : va_S A s.heap H locs) (ls : Array Slot) (hl : lv_has ls 4 []) : W p l e R s m args below meth c H locs 1 6 (zMQ below (q_W_read dC dI cB cI cL A adW adT adT_bytes adR adG adF adH adD adP sT a) args s 1 6 A) (F0 m 45 ls [.long s0]) := by
  obtain ⟨hx, hb, hr, hml, hown, hts, hlocks, hRf, hRl⟩ := id X
  unfold g_W_read_45 at hG
  exact zxretl (u := (sR)) (v := s0) X hlocks (Option.some.inj hG) hP hD hS d_W_read_45
set_option maxRecDepth 100000 in
set_option maxHeartbeats 4000000 in
theorem k_W_read_0 {p : Program} {l : Launch} {e : Env} {R : Room} {s : State} {m : MethodId} {args : Array Value} {below : List Frame} {meth : Method} {c : Code} {dC : Nat → ClassId} {dI : Nat → Nat → Nat} {cB cI cL : ClassId} {A : Nat → Prop} {adG adF adH adD adP : Nat} (X : zx p s m args meth c R R_W b_W_read (some .long) 4 7 119) (hA : ∀ q, s.heap.size ≤ q → A q) (zz : zk dC dI cB cI cL A s) (htr : l.stackTraces = false) (hnh : c.exceptionTable.isEmpty = true) (hAs : ∀ q, A q → ∀ cell, s.heap[q]? = some cell → cell.vm.isStatics = false) (hRc : 1 ≤ R.cells) (hRz : 6 ≤ R.slots)  (N : Nat) (sT : zT) (sR : zR) (v1 : Int32) (a : (Int64 ⊕ Nat) × zR) (hG : g_W_read N sT sR v1 = some a) (adW adT adT_bytes adR : Nat) (H : Heap) (locs : List Loc) (hP : va_P (dC, dI) zcl (zwW adW adT adR adG adF adH adD adP ++ zwT adT adT_bytes cB cI cL sT ++ zwR adR adT cB cI cL sR) H) (hD : va_D A (zwW adW adT adR adG adF adH adD adP ++ zwT adT adT_bytes cB cI cL sT ++ zwR adR adT cB cI cL sR)) (hS : va_S A s.heap H locs) (ls : Array Slot) (hl : lv_has ls 4 [(0, .ref adW), (1, .int v1)]) : W p l e R s m args below meth c H locs 0 0 (zMQ below (q_W_read dC dI cB cI cL A adW adT adT_bytes adR adG adF adH adD adP sT a) args s 1 6 A) (F0 m 0 ls []) := by
  obtain ⟨hx, hb, hr, hml, hown, hts, hlocks, hRf, hRl⟩ := id X
  unfold g_W_read at hG
  refine lv_aload_n hx hb d_W_read_0 rfl (lv_at hl 0 rfl) ?_
  refine lv_iload_n hx hb d_W_read_1 rfl (lv_at hl 1 rfl) ?_
  obtain ⟨a_2, hx_2, hG⟩ := zb hG
  have hr_2 := zrunXV (p := p) (e := e) (below := below) (meth := meth) (As := [.int v1]) (rest := []) (st0 := [.int v1, .ref adW]) (cells := 0) (slots := 0) X zz hP hD hS hA [0, 1, 2] (by decide) rfl (c_W_requireByte l dC dI cB cI cL H.size adW adT adT_bytes adR adG adF adH adD adP sT v1 _ hx_2 htr) zy_W_requireByte zv_W_requireByte (hts (.methodLink R_W 106 y_W_requireByte) zin_W_106) hl rfl rfl d_W_read_2 (lv_room (Nat.le_of_ble_eq_true rfl)) rfl rfl ⟨Nat.le_trans (Nat.le_of_ble_eq_true rfl) hRf, Nat.le_trans (Nat.le_of_ble_eq_true rfl) hRl⟩ ⟨(Nat.le_trans (Nat.le_of_ble_eq_true rfl) hRc), (Nat.le_trans (Nat.le_of_ble_eq_true rfl) hRz)⟩ 0 0 rfl rfl
  refine zcallX (wr := (zwR adR adT cB cI cL sR)) hr_2 hP hD hS hA [0, 1, 2] [3] rfl rfl (by decide) (by decide) hnh hlocks (by decide) (by decide) (fun k_2 u_2 t9 q9 hw_2 hP hD hF9 ht9 => ?_) (fun r_2 u_2 H locs hw_2 hP hD hS => ?_)
  · subst hw_2
    have hP : va_P (dC, dI) zcl (zwR adR adT cB cI cL sR ++ zwW adW adT adR adG adF adH adD adP ++ zwT adT adT_bytes cB cI cL sT) t9.heap := hP
    have hD : va_D A (zwR adR adT cB cI cL sR ++ zwW adW adT adR adG adF adH adD adP ++ zwT adT adT_bytes cB cI cL sT) := hD
    exact ⟨(sR), (hP.sub [1, 2, 3, 0] rfl), (hD.sub [1, 2, 3, 0] (by decide) rfl), hF9, Or.inr ⟨k_2, q9, rfl, Option.some.inj hG, ht9⟩⟩
  subst hw_2
  have hP : va_P (dC, dI) zcl (zwR adR adT cB cI cL sR ++ zwW adW adT adR adG adF adH adD adP ++ zwT adT adT_bytes cB cI cL sT) H := hP
  have hD : va_D A (zwR adR adT cB cI cL sR ++ zwW adW adT adR adG adF adH adD adP ++ zwT adT adT_bytes cB cI cL sT) := hD
  have hG : g_W_read_c2 N sT sR v1 = some a := hG
  unfold g_W_read_c2 at hG
  refine lv_aload_n hx hb d_W_read_5 rfl (lv_at hl 0 rfl) ?_
  refine va_get (D := (dC, dI)) (ci := 0) (v := .ref adR) (C := R_W) (T := F_W) (N := 7) hx hb hts zi_W hown zz.1 hP 1 rfl rfl 1 (by decide) (hts (.fieldLink R_W 21 "WireCodec" "reader" "LWireCodec$Reader;") zin_W_21) (fun _ h9 => h9) rfl d_W_read_6 ?_
  refine lv_iload_n hx hb d_W_read_9 rfl (lv_at hl 1 rfl) ?_
  refine lv_aload_n hx hb d_W_read_10 rfl (lv_at hl 0 rfl) ?_
  refine va_get (D := (dC, dI)) (ci := 0) (v := .ref adT) (C := R_W) (T := F_W) (N := 7) hx hb hts zi_W hown zz.1 hP 1 rfl rfl 0 (by decide) (hts (.fieldLink R_W 12 "WireCodec" "tape" "LWireCodec$Tape;") zin_W_12) (fun _ h9 => h9) rfl d_W_read_11 ?_
  refine va_get (D := (dC, dI)) (ci := 1) (v := .int (zT_length sT)) (C := R_T) (T := F_T) (N := 3) hx hb hts zi_T hown zz.1 hP 2 rfl rfl 2 (by decide) (hts (.fieldLink R_W 95 "WireCodec$Tape" "length" "I") zin_W_95) (fun _ h9 => h9) rfl d_W_read_14 ?_
  obtain ⟨a_17, hx_17, hG⟩ := zb hG
  have hr_17 := zrunV (p := p) (e := e) (below := below) (meth := meth) (As := [.int v1, .int (zT_length sT)]) (rest := []) (st0 := [.int (zT_length sT), .int v1, .ref adR]) (cells := 1) (slots := 6) X zz hP hD hS hA [0] (by decide) rfl (c_R_start l dC dI cB cI cL H.size adR adT sR v1 (zT_length sT) _ hx_17) zy_R_start zv_R_start (hts (.methodLink R_W 114 y_R_start) zin_W_114) hl rfl rfl d_W_read_17 (lv_room (Nat.le_of_ble_eq_true rfl)) rfl rfl ⟨Nat.le_trans (Nat.le_of_ble_eq_true rfl) hRf, Nat.le_trans (Nat.le_of_ble_eq_true rfl) hRl⟩ ⟨(Nat.le_trans (Nat.le_of_ble_eq_true rfl) hRc), (Nat.le_trans (Nat.le_of_ble_eq_true rfl) hRz)⟩ 0 2 rfl rfl
  refine zcallv (wr := (zwW adW adT adR adG adF adH adD adP ++ zwT adT adT_bytes cB cI cL sT)) hr_17 hP hD hS hA [0] [1, 2, 3] rfl rfl (by decide) (by decide) (fun u_17 H locs hw_17 hP hD hS => ?_)
  obtain ⟨sR_17, rfl⟩ : ∃ z, z = u_17 := ⟨_, rfl⟩
  subst hw_17
  have hP : va_P (dC, dI) zcl (zwW adW adT adR adG adF adH adD adP ++ zwT adT adT_bytes cB cI cL sT ++ zwR adR adT cB cI cL sR_17) H := hP
  have hD : va_D A (zwW adW adT adR adG adF adH adD adP ++ zwT adT adT_bytes cB cI cL sT ++ zwR adR adT cB cI cL sR_17) := hD
  have hG : g_W_read_c17 N sT sR_17 = some a := hG
  unfold g_W_read_c17 at hG
  refine lv_aload_n hx hb d_W_read_20 rfl (lv_at hl 0 rfl) ?_
  refine va_get (D := (dC, dI)) (ci := 0) (v := .ref adR) (C := R_W) (T := F_W) (N := 7) hx hb hts zi_W hown zz.1 hP 0 rfl rfl 1 (by decide) (hts (.fieldLink R_W 21 "WireCodec" "reader" "LWireCodec$Reader;") zin_W_21) (fun _ h9 => h9) rfl d_W_read_21 ?_
  obtain ⟨a_24, hx_24, hG⟩ := zb hG
  have hr_24 := zrunV (p := p) (e := e) (below := below) (meth := meth) (As := []) (rest := []) (st0 := [.ref adR]) (cells := 1) (slots := 6) X zz hP hD hS hA [1, 2, 3] (by decide) rfl (c_R_takeNumber l dC dI cB cI cL H.size adT adT_bytes adR N sT sR_17 _ hx_24) zy_R_takeNumber zv_R_takeNumber (hts (.methodLink R_W 117 y_R_takeNumber) zin_W_117) hl rfl rfl d_W_read_24 (lv_room (Nat.le_of_ble_eq_true rfl)) rfl rfl ⟨Nat.le_trans (Nat.le_of_ble_eq_true rfl) hRf, Nat.le_trans (Nat.le_of_ble_eq_true rfl) hRl⟩ ⟨(Nat.le_trans (Nat.le_of_ble_eq_true rfl) hRc), (Nat.le_trans (Nat.le_of_ble_eq_true rfl) hRz)⟩ 2 2 rfl rfl
  refine zcalll (wr := (zwW adW adT adR adG adF adH adD adP)) hr_24 hP hD hS hA [1, 2, 3] [0] rfl rfl (by decide) (by decide) (fun r_24 u_24 H locs hw_24 hP hD hS => ?_)
  obtain ⟨sR_24, rfl⟩ : ∃ z, z = u_24 := ⟨_, rfl⟩
  subst hw_24
  have hP : va_P (dC, dI) zcl (zwW adW adT adR adG adF adH adD adP ++ zwT adT adT_bytes cB cI cL sT ++ zwR adR adT cB cI cL sR_24) H := hP
  have hD : va_D A (zwW adW adT adR adG adF adH adD adP ++ zwT adT adT_bytes cB cI cL sT ++ zwR adR adT cB cI cL sR_24) := hD
  have hG : g_W_read_c24 N sT sR_24 r_24 = some a := hG
  unfold g_W_read_c24 at hG
  refine lv_lstore_n (lv' := [(2, .long r_24), (0, .ref adW), (1, .int v1)]) hx hb d_W_read_27 rfl hl (by decide) rfl (fun ls hl => ?_)
  refine lv_aload_n hx hb d_W_read_28 rfl (lv_at hl 1 rfl) ?_
  refine va_get (D := (dC, dI)) (ci := 0) (v := .ref adR) (C := R_W) (T := F_W) (N := 7) hx hb hts zi_W hown zz.1 hP 0 rfl rfl 1 (by decide) (hts (.fieldLink R_W 21 "WireCodec" "reader" "LWireCodec$Reader;") zin_W_21) (fun _ h9 => h9) rfl d_W_read_29 ?_
  refine va_get (D := (dC, dI)) (ci := 2) (v := .int (zR_over sR_24)) (C := R_R) (T := F_R) (N := 4) hx hb hts zi_R hown zz.1 hP 3 rfl rfl 3 (by decide) (hts (.fieldLink R_W 121 "WireCodec$Reader" "over" "Z") zin_W_121) (fun _ h9 => h9) rfl d_W_read_32 ?_
  refine lv_if_eq (tgt := 44) hx hb d_W_read_35 (by decide) (fun hc => ?_) (fun hc => ?_)
  · have hG := zt hG hc
    refine lv_lload_n hx hb d_W_read_44 rfl (lv_at hl 0 rfl) ?_
    exact k_W_read_45 X hA zz htr hnh hAs hRc hRz N sT sR_24 r_24 _ hG adW adT adT_bytes adR _ _ hP hD hS _ (lv_sub hl [] rfl)
  · have hG := zf hG hc
    refine lv_ldc2 (v := (-1 : Int64)) hx hb hown (hts (.constantLong R_W 125 (-1 : Int64)) zin_W_125) d_W_read_38 ?_
    refine lv_goto (tgt := 45) hx hb d_W_read_41 (by decide) ?_
    exact k_W_read_45 X hA zz htr hnh hAs hRc hRz N sT sR_24 (-1 : Int64) _ hG adW adT adT_bytes adR _ _ hP hD hS _ (lv_sub hl [] rfl)
set_option maxRecDepth 100000 in
set_option maxHeartbeats 4000000 in
theorem c_W_read (l : Launch) (dC : Nat → ClassId) (dI : Nat → Nat → Nat) (cB cI cL : ClassId) (sz : Nat) (adW adT adT_bytes adR adG adF adH adD adP : Nat) (N : Nat) (sT : zT) (sR : zR) (v1 : Int32) (a : (Int64 ⊕ Nat) × zR) (hG : g_W_read N sT sR v1 = some a) (htr : l.stackTraces = false) : zMet l y_W_read (zw y_W_read b_W_read 4 (some .long)) ({ frames := 7, cells := 1, slots := 6, locals := 119 }) (va_Pc [.ref adW, .int v1] (zpre dC dI cB cI cL sz (zwW adW adT adR adG adF adH adD adP ++ zwT adT adT_bytes cB cI cL sT ++ zwR adR adT cB cI cL sR))) (q_W_read dC dI cB cI cL (va_A (zwW adW adT adR adG adF adH adD adP ++ zwT adT adT_bytes cB cI cL sT ++ zwR adR adT cB cI cL sR) sz) adW adT adT_bytes adR adG adF adH adD adP sT a) 1 6 (va_A (zwW adW adT adR adG adF adH adD adP ++ zwT adT adT_bytes cB cI cL sT ++ zwR adR adT cB cI cL sR) sz) := by
  refine zMet.ofW (cc := b_W_read) (maxL := 4) (ret := (some .long)) (by decide) rfl ?_
  intro p e s m args below meth c s₁ B hml hv
  obtain ⟨rfl, hsz, hP, zz, hD0⟩ := hv
  subst hsz
  have X := zx_of (F := 7) (L := 119) B hml (Nat.le_refl _) (Nat.le_refl _)
  have hD := hD0.self (sz := s.heap.size)
  have hA : ∀ q : Nat, s.heap.size ≤ q → va_A (zwW adW adT adR adG adF adH adD adP ++ zwT adT adT_bytes cB cI cL sT ++ zwR adR adT cB cI cL sR) s.heap.size q := fun q h => Or.inr h
  have hl := lv_entry ([.ref adW, .int v1]) (n := 4) (Nat.le_of_ble_eq_true rfl)
  rw [lg_entry_eq]
  generalize (lg_sl ([.ref adW, .int v1]) ++ List.replicate (4 - (lg_sl ([.ref adW, .int v1])).length) Slot.unset).toArray = ls at hl ⊢
  have hnh := BodyLoose.noHandlers B (atoms_spec (ws := zw y_W_read b_W_read 4 (some .long)) B.pre _ List.mem_cons_self)
  have hAs := zstatics hP
  exact k_W_read_0 X hA zz htr hnh hAs (Nat.le_refl _) (Nat.le_refl _) N sT sR v1 a hG adW adT adT_bytes adR _ _ hP hD va_S.rf ls hl

theorem zy_W_size : zy y_W_size b_W_size 1 (some .int) 0 := ⟨zmem 315 (by decide +kernel) (by decide +kernel), zmem 62 (by decide +kernel) (by decide +kernel), by decide +kernel⟩
theorem zv_W_size : Cond.instanceMethod y_W_size ∈ ztb ∧ Cond.selects y_W_size.cls y_W_size y_W_size ∈ ztb := ⟨zmem 313 (by decide +kernel) (by decide +kernel), zmem 314 (by decide +kernel) (by decide +kernel)⟩
theorem d_W_size_0 : decode b_W_size 0 = .ok (.aload_n 0, 1) := by decide +kernel
theorem d_W_size_1 : decode b_W_size 1 = .ok (.getfield 12, 3) := by decide +kernel
theorem d_W_size_4 : decode b_W_size 4 = .ok (.getfield 95, 3) := by decide +kernel
theorem d_W_size_7 : decode b_W_size 7 = .ok (.ireturn, 1) := by decide +kernel
theorem zy_W_fault : zy y_W_fault b_W_fault 2 (some .int) 1 := ⟨zmem 319 (by decide +kernel) (by decide +kernel), zmem 62 (by decide +kernel) (by decide +kernel), by decide +kernel⟩
theorem zv_W_fault : Cond.instanceMethod y_W_fault ∈ ztb ∧ Cond.selects y_W_fault.cls y_W_fault y_W_fault ∈ ztb := ⟨zmem 317 (by decide +kernel) (by decide +kernel), zmem 318 (by decide +kernel) (by decide +kernel)⟩
theorem d_W_fault_0 : decode b_W_fault 0 = .ok (.iload_n 1, 1) := by decide +kernel
theorem d_W_fault_1 : decode b_W_fault 1 = .ok (.ifCond .eq 13, 3) := by decide +kernel
theorem d_W_fault_4 : decode b_W_fault 4 = .ok (.aload_n 0, 1) := by decide +kernel
theorem d_W_fault_5 : decode b_W_fault 5 = .ok (.getfield 28, 3) := by decide +kernel
theorem d_W_fault_8 : decode b_W_fault 8 = .ok (.getfield 155, 3) := by decide +kernel
theorem d_W_fault_11 : decode b_W_fault 11 = .ok (.goto 10, 3) := by decide +kernel
theorem d_W_fault_14 : decode b_W_fault 14 = .ok (.aload_n 0, 1) := by decide +kernel
theorem d_W_fault_15 : decode b_W_fault 15 = .ok (.getfield 28, 3) := by decide +kernel
theorem d_W_fault_18 : decode b_W_fault 18 = .ok (.getfield 158, 3) := by decide +kernel
theorem d_W_fault_21 : decode b_W_fault 21 = .ok (.ireturn, 1) := by decide +kernel
theorem zy_W_set : zy y_W_set b_W_set 6 none 2 := ⟨zmem 685 (by decide +kernel) (by decide +kernel), zmem 62 (by decide +kernel) (by decide +kernel), by decide +kernel⟩
theorem zv_W_set : Cond.instanceMethod y_W_set ∈ ztb ∧ Cond.selects y_W_set.cls y_W_set y_W_set ∈ ztb := ⟨zmem 683 (by decide +kernel) (by decide +kernel), zmem 684 (by decide +kernel) (by decide +kernel)⟩
theorem d_W_set_0 : decode b_W_set 0 = .ok (.iload_n 1, 1) := by decide +kernel
theorem d_W_set_1 : decode b_W_set 1 = .ok (.ifCond .lt 12, 3) := by decide +kernel
theorem d_W_set_4 : decode b_W_set 4 = .ok (.iload_n 1, 1) := by decide +kernel
theorem d_W_set_5 : decode b_W_set 5 = .ok (.iconst 3, 1) := by decide +kernel
theorem d_W_set_6 : decode b_W_set 6 = .ok (.if_icmp .gt 7, 3) := by decide +kernel
theorem d_W_set_9 : decode b_W_set 9 = .ok (.iconst 1, 1) := by decide +kernel
theorem d_W_set_10 : decode b_W_set 10 = .ok (.goto 4, 3) := by decide +kernel
theorem d_W_set_13 : decode b_W_set 13 = .ok (.iconst 0, 1) := by decide +kernel
theorem d_W_set_14 : decode b_W_set 14 = .ok (.istore 4, 2) := by decide +kernel
theorem d_W_set_16 : decode b_W_set 16 = .ok (.iload_n 1, 1) := by decide +kernel
theorem d_W_set_17 : decode b_W_set 17 = .ok (.bipush 9, 2) := by decide +kernel
theorem d_W_set_19 : decode b_W_set 19 = .ok (.if_icmp .lt 13, 3) := by decide +kernel
theorem d_W_set_22 : decode b_W_set 22 = .ok (.iload_n 1, 1) := by decide +kernel
theorem d_W_set_23 : decode b_W_set 23 = .ok (.bipush 12, 2) := by decide +kernel
theorem d_W_set_25 : decode b_W_set 25 = .ok (.if_icmp .ge 7, 3) := by decide +kernel
theorem d_W_set_28 : decode b_W_set 28 = .ok (.iconst 1, 1) := by decide +kernel
theorem d_W_set_29 : decode b_W_set 29 = .ok (.goto 4, 3) := by decide +kernel
theorem d_W_set_32 : decode b_W_set 32 = .ok (.iconst 0, 1) := by decide +kernel
theorem d_W_set_33 : decode b_W_set 33 = .ok (.istore 5, 2) := by decide +kernel
theorem d_W_set_35 : decode b_W_set 35 = .ok (.iload 4, 2) := by decide +kernel
theorem d_W_set_37 : decode b_W_set 37 = .ok (.ifCond .ne 18, 3) := by decide +kernel
theorem d_W_set_40 : decode b_W_set 40 = .ok (.iload 5, 2) := by decide +kernel
theorem d_W_set_42 : decode b_W_set 42 = .ok (.ifCond .ne 13, 3) := by decide +kernel
theorem d_W_set_45 : decode b_W_set 45 = .ok (.new 60, 3) := by decide +kernel
theorem d_W_set_48 : decode b_W_set 48 = .ok (.dup, 1) := by decide +kernel
theorem d_W_set_49 : decode b_W_set 49 = .ok (.ldc 203, 2) := by decide +kernel
theorem d_W_set_51 : decode b_W_set 51 = .ok (.invokespecial 64, 3) := by decide +kernel
theorem d_W_set_54 : decode b_W_set 54 = .ok (.athrow, 1) := by decide +kernel
theorem d_W_set_55 : decode b_W_set 55 = .ok (.aload_n 0, 1) := by decide +kernel
theorem d_W_set_56 : decode b_W_set 56 = .ok (.getfield 49, 3) := by decide +kernel
theorem d_W_set_59 : decode b_W_set 59 = .ok (.getfield 205, 3) := by decide +kernel
theorem d_W_set_62 : decode b_W_set 62 = .ok (.iload_n 1, 1) := by decide +kernel
theorem d_W_set_63 : decode b_W_set 63 = .ok (.lload_n 2, 1) := by decide +kernel
theorem d_W_set_64 : decode b_W_set 64 = .ok (.lastore, 1) := by decide +kernel
theorem d_W_set_65 : decode b_W_set 65 = .ok (.return_, 1) := by decide +kernel
theorem zy_W_parameter : zy y_W_parameter b_W_parameter 2 (some .long) 1 := ⟨zmem 912 (by decide +kernel) (by decide +kernel), zmem 62 (by decide +kernel) (by decide +kernel), by decide +kernel⟩
theorem zv_W_parameter : Cond.instanceMethod y_W_parameter ∈ ztb ∧ Cond.selects y_W_parameter.cls y_W_parameter y_W_parameter ∈ ztb := ⟨zmem 910 (by decide +kernel) (by decide +kernel), zmem 911 (by decide +kernel) (by decide +kernel)⟩
theorem d_W_parameter_0 : decode b_W_parameter 0 = .ok (.iload_n 1, 1) := by decide +kernel
theorem d_W_parameter_1 : decode b_W_parameter 1 = .ok (.ifCond .lt 9, 3) := by decide +kernel
theorem d_W_parameter_4 : decode b_W_parameter 4 = .ok (.iload_n 1, 1) := by decide +kernel
theorem d_W_parameter_5 : decode b_W_parameter 5 = .ok (.bipush 16, 2) := by decide +kernel
theorem d_W_parameter_7 : decode b_W_parameter 7 = .ok (.if_icmp .le 14, 3) := by decide +kernel
theorem d_W_parameter_10 : decode b_W_parameter 10 = .ok (.new 164, 3) := by decide +kernel
theorem d_W_parameter_13 : decode b_W_parameter 13 = .ok (.dup, 1) := by decide +kernel
theorem d_W_parameter_14 : decode b_W_parameter 14 = .ok (.ldc_w 298, 3) := by decide +kernel
theorem d_W_parameter_17 : decode b_W_parameter 17 = .ok (.invokespecial 168, 3) := by decide +kernel
theorem d_W_parameter_20 : decode b_W_parameter 20 = .ok (.athrow, 1) := by decide +kernel
theorem d_W_parameter_21 : decode b_W_parameter 21 = .ok (.aload_n 0, 1) := by decide +kernel
theorem d_W_parameter_22 : decode b_W_parameter 22 = .ok (.getfield 56, 3) := by decide +kernel
theorem d_W_parameter_25 : decode b_W_parameter 25 = .ok (.getfield 300, 3) := by decide +kernel
theorem d_W_parameter_28 : decode b_W_parameter 28 = .ok (.iload_n 1, 1) := by decide +kernel
theorem d_W_parameter_29 : decode b_W_parameter 29 = .ok (.laload, 1) := by decide +kernel
theorem d_W_parameter_30 : decode b_W_parameter 30 = .ok (.lreturn, 1) := by decide +kernel
theorem zy_W_requireByte : zy y_W_requireByte b_W_requireByte 2 none 1 := ⟨zmem 491 (by decide +kernel) (by decide +kernel), zmem 62 (by decide +kernel) (by decide +kernel), by decide +kernel⟩
theorem zv_W_requireByte : Cond.instanceMethod y_W_requireByte ∈ ztb ∧ Cond.selects y_W_requireByte.cls y_W_requireByte y_W_requireByte ∈ ztb := ⟨zmem 490 (by decide +kernel) (by decide +kernel), zmem 2 (by decide +kernel) (by decide +kernel)⟩
theorem d_W_requireByte_0 : decode b_W_requireByte 0 = .ok (.iload_n 1, 1) := by decide +kernel
theorem d_W_requireByte_1 : decode b_W_requireByte 1 = .ok (.ifCond .lt 14, 3) := by decide +kernel
theorem d_W_requireByte_4 : decode b_W_requireByte 4 = .ok (.iload_n 1, 1) := by decide +kernel
theorem d_W_requireByte_5 : decode b_W_requireByte 5 = .ok (.aload_n 0, 1) := by decide +kernel
theorem d_W_requireByte_6 : decode b_W_requireByte 6 = .ok (.getfield 12, 3) := by decide +kernel
theorem d_W_requireByte_9 : decode b_W_requireByte 9 = .ok (.getfield 95, 3) := by decide +kernel
theorem d_W_requireByte_12 : decode b_W_requireByte 12 = .ok (.if_icmp .lt 14, 3) := by decide +kernel
theorem d_W_requireByte_15 : decode b_W_requireByte 15 = .ok (.new 164, 3) := by decide +kernel
theorem d_W_requireByte_18 : decode b_W_requireByte 18 = .ok (.dup, 1) := by decide +kernel
theorem d_W_requireByte_19 : decode b_W_requireByte 19 = .ok (.ldc_w 309, 3) := by decide +kernel
theorem d_W_requireByte_22 : decode b_W_requireByte 22 = .ok (.invokespecial 168, 3) := by decide +kernel
theorem d_W_requireByte_25 : decode b_W_requireByte 25 = .ok (.athrow, 1) := by decide +kernel
theorem d_W_requireByte_26 : decode b_W_requireByte 26 = .ok (.return_, 1) := by decide +kernel
theorem zy_W_requirePlace : zy y_W_requirePlace b_W_requirePlace 2 none 1 := ⟨zmem 551 (by decide +kernel) (by decide +kernel), zmem 62 (by decide +kernel) (by decide +kernel), by decide +kernel⟩
theorem zv_W_requirePlace : Cond.instanceMethod y_W_requirePlace ∈ ztb ∧ Cond.selects y_W_requirePlace.cls y_W_requirePlace y_W_requirePlace ∈ ztb := ⟨zmem 550 (by decide +kernel) (by decide +kernel), zmem 3 (by decide +kernel) (by decide +kernel)⟩
theorem d_W_requirePlace_0 : decode b_W_requirePlace 0 = .ok (.iload_n 1, 1) := by decide +kernel
theorem d_W_requirePlace_1 : decode b_W_requirePlace 1 = .ok (.ifCond .lt 14, 3) := by decide +kernel
theorem d_W_requirePlace_4 : decode b_W_requirePlace 4 = .ok (.iload_n 1, 1) := by decide +kernel
theorem d_W_requirePlace_5 : decode b_W_requirePlace 5 = .ok (.aload_n 0, 1) := by decide +kernel
theorem d_W_requirePlace_6 : decode b_W_requirePlace 6 = .ok (.getfield 12, 3) := by decide +kernel
theorem d_W_requirePlace_9 : decode b_W_requirePlace 9 = .ok (.getfield 95, 3) := by decide +kernel
theorem d_W_requirePlace_12 : decode b_W_requirePlace 12 = .ok (.if_icmp .le 14, 3) := by decide +kernel
theorem d_W_requirePlace_15 : decode b_W_requirePlace 15 = .ok (.new 60, 3) := by decide +kernel
theorem d_W_requirePlace_18 : decode b_W_requirePlace 18 = .ok (.dup, 1) := by decide +kernel
theorem d_W_requirePlace_19 : decode b_W_requirePlace 19 = .ok (.ldc_w 311, 3) := by decide +kernel
theorem d_W_requirePlace_22 : decode b_W_requirePlace 22 = .ok (.invokespecial 64, 3) := by decide +kernel
theorem d_W_requirePlace_25 : decode b_W_requirePlace 25 = .ok (.athrow, 1) := by decide +kernel
theorem d_W_requirePlace_26 : decode b_W_requirePlace 26 = .ok (.return_, 1) := by decide +kernel
theorem zy_W_requireNames : zy y_W_requireNames b_W_requireNames 1 none 1 := ⟨zmem 783 (by decide +kernel) (by decide +kernel), zmem 62 (by decide +kernel) (by decide +kernel), by decide +kernel⟩
theorem zv_W_requireNames : Cond.static y_W_requireNames ∈ ztb := zmem 782 (by decide +kernel) (by decide +kernel)
theorem d_W_requireNames_0 : decode b_W_requireNames 0 = .ok (.iload_n 0, 1) := by decide +kernel
theorem d_W_requireNames_1 : decode b_W_requireNames 1 = .ok (.ifCond .lt 9, 3) := by decide +kernel
theorem d_W_requireNames_4 : decode b_W_requireNames 4 = .ok (.iload_n 0, 1) := by decide +kernel
theorem d_W_requireNames_5 : decode b_W_requireNames 5 = .ok (.bipush 20, 2) := by decide +kernel
theorem d_W_requireNames_7 : decode b_W_requireNames 7 = .ok (.if_icmp .le 14, 3) := by decide +kernel
theorem d_W_requireNames_10 : decode b_W_requireNames 10 = .ok (.new 60, 3) := by decide +kernel
theorem d_W_requireNames_13 : decode b_W_requireNames 13 = .ok (.dup, 1) := by decide +kernel
theorem d_W_requireNames_14 : decode b_W_requireNames 14 = .ok (.ldc_w 313, 3) := by decide +kernel
theorem d_W_requireNames_17 : decode b_W_requireNames 17 = .ok (.invokespecial 64, 3) := by decide +kernel
theorem d_W_requireNames_20 : decode b_W_requireNames 20 = .ok (.athrow, 1) := by decide +kernel
theorem d_W_requireNames_21 : decode b_W_requireNames 21 = .ok (.return_, 1) := by decide +kernel
theorem zy_W_isNumber : zy y_W_isNumber b_W_isNumber 2 (some .boolean) 1 := ⟨zmem 461 (by decide +kernel) (by decide +kernel), zmem 62 (by decide +kernel) (by decide +kernel), by decide +kernel⟩
theorem zv_W_isNumber : Cond.static y_W_isNumber ∈ ztb := zmem 460 (by decide +kernel) (by decide +kernel)
theorem d_W_isNumber_0 : decode b_W_isNumber 0 = .ok (.lload_n 0, 1) := by decide +kernel
theorem d_W_isNumber_1 : decode b_W_isNumber 1 = .ok (.lconst 0, 1) := by decide +kernel
theorem d_W_isNumber_2 : decode b_W_isNumber 2 = .ok (.lcmp, 1) := by decide +kernel
theorem d_W_isNumber_3 : decode b_W_isNumber 3 = .ok (.ifCond .lt 15, 3) := by decide +kernel
theorem d_W_isNumber_6 : decode b_W_isNumber 6 = .ok (.lload_n 0, 1) := by decide +kernel
theorem d_W_isNumber_7 : decode b_W_isNumber 7 = .ok (.ldc2_w 317, 3) := by decide +kernel
theorem d_W_isNumber_10 : decode b_W_isNumber 10 = .ok (.lcmp, 1) := by decide +kernel
theorem d_W_isNumber_11 : decode b_W_isNumber 11 = .ok (.ifCond .gt 7, 3) := by decide +kernel
theorem d_W_isNumber_14 : decode b_W_isNumber 14 = .ok (.iconst 1, 1) := by decide +kernel
theorem d_W_isNumber_15 : decode b_W_isNumber 15 = .ok (.goto 4, 3) := by decide +kernel
theorem d_W_isNumber_18 : decode b_W_isNumber 18 = .ok (.iconst 0, 1) := by decide +kernel
theorem d_W_isNumber_19 : decode b_W_isNumber 19 = .ok (.ireturn, 1) := by decide +kernel
theorem zy_W_isNumberOrNone : zy y_W_isNumberOrNone b_W_isNumberOrNone 2 (some .boolean) 1 := ⟨zmem 862 (by decide +kernel) (by decide +kernel), zmem 62 (by decide +kernel) (by decide +kernel), by decide +kernel⟩
theorem zv_W_isNumberOrNone : Cond.static y_W_isNumberOrNone ∈ ztb := zmem 861 (by decide +kernel) (by decide +kernel)
theorem d_W_isNumberOrNone_0 : decode b_W_isNumberOrNone 0 = .ok (.lload_n 0, 1) := by decide +kernel
theorem d_W_isNumberOrNone_1 : decode b_W_isNumberOrNone 1 = .ok (.ldc2_w 125, 3) := by decide +kernel
theorem d_W_isNumberOrNone_4 : decode b_W_isNumberOrNone 4 = .ok (.lcmp, 1) := by decide +kernel
theorem d_W_isNumberOrNone_5 : decode b_W_isNumberOrNone 5 = .ok (.ifCond .eq 10, 3) := by decide +kernel
theorem d_W_isNumberOrNone_8 : decode b_W_isNumberOrNone 8 = .ok (.lload_n 0, 1) := by decide +kernel
theorem d_W_isNumberOrNone_9 : decode b_W_isNumberOrNone 9 = .ok (.invokestatic 78, 3) := by decide +kernel
theorem d_W_isNumberOrNone_12 : decode b_W_isNumberOrNone 12 = .ok (.ifCond .eq 7, 3) := by decide +kernel
theorem d_W_isNumberOrNone_15 : decode b_W_isNumberOrNone 15 = .ok (.iconst 1, 1) := by decide +kernel
theorem d_W_isNumberOrNone_16 : decode b_W_isNumberOrNone 16 = .ok (.goto 4, 3) := by decide +kernel
theorem d_W_isNumberOrNone_19 : decode b_W_isNumberOrNone 19 = .ok (.iconst 0, 1) := by decide +kernel
theorem d_W_isNumberOrNone_20 : decode b_W_isNumberOrNone 20 = .ok (.ireturn, 1) := by decide +kernel
theorem zy_W_isNumberSize : zy y_W_isNumberSize b_W_isNumberSize 1 (some .boolean) 1 := ⟨zmem 465 (by decide +kernel) (by decide +kernel), zmem 62 (by decide +kernel) (by decide +kernel), by decide +kernel⟩
theorem zv_W_isNumberSize : Cond.static y_W_isNumberSize ∈ ztb := zmem 464 (by decide +kernel) (by decide +kernel)
theorem d_W_isNumberSize_0 : decode b_W_isNumberSize 0 = .ok (.iload_n 0, 1) := by decide +kernel
theorem d_W_isNumberSize_1 : decode b_W_isNumberSize 1 = .ok (.iconst 1, 1) := by decide +kernel
theorem d_W_isNumberSize_2 : decode b_W_isNumberSize 2 = .ok (.if_icmp .eq 19, 3) := by decide +kernel
theorem d_W_isNumberSize_5 : decode b_W_isNumberSize 5 = .ok (.iload_n 0, 1) := by decide +kernel
theorem d_W_isNumberSize_6 : decode b_W_isNumberSize 6 = .ok (.iconst 2, 1) := by decide +kernel
theorem d_W_isNumberSize_7 : decode b_W_isNumberSize 7 = .ok (.if_icmp .eq 14, 3) := by decide +kernel
theorem d_W_isNumberSize_10 : decode b_W_isNumberSize 10 = .ok (.iload_n 0, 1) := by decide +kernel
theorem d_W_isNumberSize_11 : decode b_W_isNumberSize 11 = .ok (.iconst 4, 1) := by decide +kernel
theorem d_W_isNumberSize_12 : decode b_W_isNumberSize 12 = .ok (.if_icmp .eq 9, 3) := by decide +kernel
theorem d_W_isNumberSize_15 : decode b_W_isNumberSize 15 = .ok (.iload_n 0, 1) := by decide +kernel
theorem d_W_isNumberSize_16 : decode b_W_isNumberSize 16 = .ok (.bipush 8, 2) := by decide +kernel
theorem d_W_isNumberSize_18 : decode b_W_isNumberSize 18 = .ok (.if_icmp .ne 7, 3) := by decide +kernel
theorem d_W_isNumberSize_21 : decode b_W_isNumberSize 21 = .ok (.iconst 1, 1) := by decide +kernel
theorem d_W_isNumberSize_22 : decode b_W_isNumberSize 22 = .ok (.goto 4, 3) := by decide +kernel
theorem d_W_isNumberSize_25 : decode b_W_isNumberSize 25 = .ok (.iconst 0, 1) := by decide +kernel
theorem d_W_isNumberSize_26 : decode b_W_isNumberSize 26 = .ok (.ireturn, 1) := by decide +kernel
theorem zy_W_fewestBytes : zy y_W_fewestBytes b_W_fewestBytes 2 (some .int) 1 := ⟨zmem 468 (by decide +kernel) (by decide +kernel), zmem 62 (by decide +kernel) (by decide +kernel), by decide +kernel⟩
theorem zv_W_fewestBytes : Cond.static y_W_fewestBytes ∈ ztb := zmem 467 (by decide +kernel) (by decide +kernel)
theorem d_W_fewestBytes_0 : decode b_W_fewestBytes 0 = .ok (.lload_n 0, 1) := by decide +kernel
theorem d_W_fewestBytes_1 : decode b_W_fewestBytes 1 = .ok (.ldc2_w 319, 3) := by decide +kernel
theorem d_W_fewestBytes_4 : decode b_W_fewestBytes 4 = .ok (.lcmp, 1) := by decide +kernel
theorem d_W_fewestBytes_5 : decode b_W_fewestBytes 5 = .ok (.ifCond .ge 5, 3) := by decide +kernel
theorem d_W_fewestBytes_8 : decode b_W_fewestBytes 8 = .ok (.iconst 1, 1) := by decide +kernel
theorem d_W_fewestBytes_9 : decode b_W_fewestBytes 9 = .ok (.ireturn, 1) := by decide +kernel
theorem d_W_fewestBytes_10 : decode b_W_fewestBytes 10 = .ok (.lload_n 0, 1) := by decide +kernel
theorem d_W_fewestBytes_11 : decode b_W_fewestBytes 11 = .ok (.ldc2_w 321, 3) := by decide +kernel
theorem d_W_fewestBytes_14 : decode b_W_fewestBytes 14 = .ok (.lcmp, 1) := by decide +kernel
theorem d_W_fewestBytes_15 : decode b_W_fewestBytes 15 = .ok (.ifCond .ge 5, 3) := by decide +kernel
theorem d_W_fewestBytes_18 : decode b_W_fewestBytes 18 = .ok (.iconst 2, 1) := by decide +kernel
theorem d_W_fewestBytes_19 : decode b_W_fewestBytes 19 = .ok (.ireturn, 1) := by decide +kernel
theorem d_W_fewestBytes_20 : decode b_W_fewestBytes 20 = .ok (.lload_n 0, 1) := by decide +kernel
theorem d_W_fewestBytes_21 : decode b_W_fewestBytes 21 = .ok (.ldc2_w 323, 3) := by decide +kernel
theorem d_W_fewestBytes_24 : decode b_W_fewestBytes 24 = .ok (.lcmp, 1) := by decide +kernel
theorem d_W_fewestBytes_25 : decode b_W_fewestBytes 25 = .ok (.ifCond .ge 7, 3) := by decide +kernel
theorem d_W_fewestBytes_28 : decode b_W_fewestBytes 28 = .ok (.iconst 4, 1) := by decide +kernel
theorem d_W_fewestBytes_29 : decode b_W_fewestBytes 29 = .ok (.goto 5, 3) := by decide +kernel
theorem d_W_fewestBytes_32 : decode b_W_fewestBytes 32 = .ok (.bipush 8, 2) := by decide +kernel
theorem d_W_fewestBytes_34 : decode b_W_fewestBytes 34 = .ok (.ireturn, 1) := by decide +kernel
theorem zy_W_fieldsHold : zy y_W_fieldsHold b_W_fieldsHold 7 (some .boolean) 4 := ⟨zmem 621 (by decide +kernel) (by decide +kernel), zmem 62 (by decide +kernel) (by decide +kernel), by decide +kernel⟩
theorem zv_W_fieldsHold : Cond.static y_W_fieldsHold ∈ ztb := zmem 620 (by decide +kernel) (by decide +kernel)
theorem d_W_fieldsHold_0 : decode b_W_fieldsHold 0 = .ok (.iload_n 0, 1) := by decide +kernel
theorem d_W_fieldsHold_1 : decode b_W_fieldsHold 1 = .ok (.tableswitch 163 6 24 #[104, 91, 104, 163, 163, 163, 163, 163, 163, 163, 163, 163, 121, 121, 163, 163, 121, 121, 135], 91) := by decide +kernel
theorem d_W_fieldsHold_92 : decode b_W_fieldsHold 92 = .ok (.lload 5, 2) := by decide +kernel
theorem d_W_fieldsHold_94 : decode b_W_fieldsHold 94 = .ok (.lconst 0, 1) := by decide +kernel
theorem d_W_fieldsHold_95 : decode b_W_fieldsHold 95 = .ok (.lcmp, 1) := by decide +kernel
theorem d_W_fieldsHold_96 : decode b_W_fieldsHold 96 = .ok (.ifCond .le 7, 3) := by decide +kernel
theorem d_W_fieldsHold_99 : decode b_W_fieldsHold 99 = .ok (.iconst 1, 1) := by decide +kernel
theorem d_W_fieldsHold_100 : decode b_W_fieldsHold 100 = .ok (.goto 4, 3) := by decide +kernel
theorem d_W_fieldsHold_103 : decode b_W_fieldsHold 103 = .ok (.iconst 0, 1) := by decide +kernel
theorem d_W_fieldsHold_104 : decode b_W_fieldsHold 104 = .ok (.ireturn, 1) := by decide +kernel
theorem d_W_fieldsHold_105 : decode b_W_fieldsHold 105 = .ok (.lload_n 3, 1) := by decide +kernel
theorem d_W_fieldsHold_106 : decode b_W_fieldsHold 106 = .ok (.ldc2_w 317, 3) := by decide +kernel
theorem d_W_fieldsHold_109 : decode b_W_fieldsHold 109 = .ok (.lload 5, 2) := by decide +kernel
theorem d_W_fieldsHold_111 : decode b_W_fieldsHold 111 = .ok (.lsub, 1) := by decide +kernel
theorem d_W_fieldsHold_112 : decode b_W_fieldsHold 112 = .ok (.lcmp, 1) := by decide +kernel
theorem d_W_fieldsHold_113 : decode b_W_fieldsHold 113 = .ok (.ifCond .gt 7, 3) := by decide +kernel
theorem d_W_fieldsHold_116 : decode b_W_fieldsHold 116 = .ok (.iconst 1, 1) := by decide +kernel
theorem d_W_fieldsHold_117 : decode b_W_fieldsHold 117 = .ok (.goto 4, 3) := by decide +kernel
theorem d_W_fieldsHold_120 : decode b_W_fieldsHold 120 = .ok (.iconst 0, 1) := by decide +kernel
theorem d_W_fieldsHold_121 : decode b_W_fieldsHold 121 = .ok (.ireturn, 1) := by decide +kernel
theorem d_W_fieldsHold_122 : decode b_W_fieldsHold 122 = .ok (.lload_n 1, 1) := by decide +kernel
theorem d_W_fieldsHold_123 : decode b_W_fieldsHold 123 = .ok (.ldc2_w 325, 3) := by decide +kernel
theorem d_W_fieldsHold_126 : decode b_W_fieldsHold 126 = .ok (.lcmp, 1) := by decide +kernel
theorem d_W_fieldsHold_127 : decode b_W_fieldsHold 127 = .ok (.ifCond .gt 7, 3) := by decide +kernel
theorem d_W_fieldsHold_130 : decode b_W_fieldsHold 130 = .ok (.iconst 1, 1) := by decide +kernel
theorem d_W_fieldsHold_131 : decode b_W_fieldsHold 131 = .ok (.goto 4, 3) := by decide +kernel
theorem d_W_fieldsHold_134 : decode b_W_fieldsHold 134 = .ok (.iconst 0, 1) := by decide +kernel
theorem d_W_fieldsHold_135 : decode b_W_fieldsHold 135 = .ok (.ireturn, 1) := by decide +kernel
theorem d_W_fieldsHold_136 : decode b_W_fieldsHold 136 = .ok (.lload_n 3, 1) := by decide +kernel
theorem d_W_fieldsHold_137 : decode b_W_fieldsHold 137 = .ok (.lload_n 1, 1) := by decide +kernel
theorem d_W_fieldsHold_138 : decode b_W_fieldsHold 138 = .ok (.lcmp, 1) := by decide +kernel
theorem d_W_fieldsHold_139 : decode b_W_fieldsHold 139 = .ok (.ifCond .gt 23, 3) := by decide +kernel
theorem d_W_fieldsHold_142 : decode b_W_fieldsHold 142 = .ok (.lload 5, 2) := by decide +kernel
theorem d_W_fieldsHold_144 : decode b_W_fieldsHold 144 = .ok (.lconst 1, 1) := by decide +kernel
theorem d_W_fieldsHold_145 : decode b_W_fieldsHold 145 = .ok (.lcmp, 1) := by decide +kernel
theorem d_W_fieldsHold_146 : decode b_W_fieldsHold 146 = .ok (.ifCond .lt 16, 3) := by decide +kernel
theorem d_W_fieldsHold_149 : decode b_W_fieldsHold 149 = .ok (.lload 5, 2) := by decide +kernel
theorem d_W_fieldsHold_151 : decode b_W_fieldsHold 151 = .ok (.ldc2_w 327, 3) := by decide +kernel
theorem d_W_fieldsHold_154 : decode b_W_fieldsHold 154 = .ok (.lcmp, 1) := by decide +kernel
theorem d_W_fieldsHold_155 : decode b_W_fieldsHold 155 = .ok (.ifCond .gt 7, 3) := by decide +kernel
theorem d_W_fieldsHold_158 : decode b_W_fieldsHold 158 = .ok (.iconst 1, 1) := by decide +kernel
theorem d_W_fieldsHold_159 : decode b_W_fieldsHold 159 = .ok (.goto 4, 3) := by decide +kernel
theorem d_W_fieldsHold_162 : decode b_W_fieldsHold 162 = .ok (.iconst 0, 1) := by decide +kernel
theorem d_W_fieldsHold_163 : decode b_W_fieldsHold 163 = .ok (.ireturn, 1) := by decide +kernel
theorem d_W_fieldsHold_164 : decode b_W_fieldsHold 164 = .ok (.iconst 1, 1) := by decide +kernel
theorem d_W_fieldsHold_165 : decode b_W_fieldsHold 165 = .ok (.ireturn, 1) := by decide +kernel
theorem zy_D_append : zy y_D_append b_D_append 5 none 2 := ⟨zmem 698 (by decide +kernel) (by decide +kernel), zmem 68 (by decide +kernel) (by decide +kernel), by decide +kernel⟩
theorem zv_D_append : Cond.instanceMethod y_D_append ∈ ztb ∧ Cond.selects y_D_append.cls y_D_append y_D_append ∈ ztb := ⟨zmem 696 (by decide +kernel) (by decide +kernel), zmem 697 (by decide +kernel) (by decide +kernel)⟩
theorem d_D_append_0 : decode b_D_append 0 = .ok (.iload_n 3, 1) := by decide +kernel
theorem d_D_append_1 : decode b_D_append 1 = .ok (.iconst 1, 1) := by decide +kernel
theorem d_D_append_2 : decode b_D_append 2 = .ok (.isub, 1) := by decide +kernel
theorem d_D_append_3 : decode b_D_append 3 = .ok (.istore 4, 2) := by decide +kernel
theorem d_D_append_5 : decode b_D_append 5 = .ok (.iload 4, 2) := by decide +kernel
theorem d_D_append_7 : decode b_D_append 7 = .ok (.ifCond .lt 56, 3) := by decide +kernel
theorem d_D_append_10 : decode b_D_append 10 = .ok (.aload_n 0, 1) := by decide +kernel
theorem d_D_append_11 : decode b_D_append 11 = .ok (.getfield 31, 3) := by decide +kernel
theorem d_D_append_14 : decode b_D_append 14 = .ok (.ifCond .lt 49, 3) := by decide +kernel
theorem d_D_append_17 : decode b_D_append 17 = .ok (.aload_n 0, 1) := by decide +kernel
theorem d_D_append_18 : decode b_D_append 18 = .ok (.getfield 31, 3) := by decide +kernel
theorem d_D_append_21 : decode b_D_append 21 = .ok (.aload_n 0, 1) := by decide +kernel
theorem d_D_append_22 : decode b_D_append 22 = .ok (.getfield 15, 3) := by decide +kernel
theorem d_D_append_25 : decode b_D_append 25 = .ok (.arraylength, 1) := by decide +kernel
theorem d_D_append_26 : decode b_D_append 26 = .ok (.if_icmp .ge 37, 3) := by decide +kernel
theorem d_D_append_29 : decode b_D_append 29 = .ok (.aload_n 0, 1) := by decide +kernel
theorem d_D_append_30 : decode b_D_append 30 = .ok (.getfield 15, 3) := by decide +kernel
theorem d_D_append_33 : decode b_D_append 33 = .ok (.aload_n 0, 1) := by decide +kernel
theorem d_D_append_34 : decode b_D_append 34 = .ok (.getfield 31, 3) := by decide +kernel
theorem d_D_append_37 : decode b_D_append 37 = .ok (.lload_n 1, 1) := by decide +kernel
theorem d_D_append_38 : decode b_D_append 38 = .ok (.bipush 8, 2) := by decide +kernel
theorem d_D_append_40 : decode b_D_append 40 = .ok (.iload 4, 2) := by decide +kernel
theorem d_D_append_42 : decode b_D_append 42 = .ok (.imul, 1) := by decide +kernel
theorem d_D_append_43 : decode b_D_append 43 = .ok (.lshr, 1) := by decide +kernel
theorem d_D_append_44 : decode b_D_append 44 = .ok (.l2i, 1) := by decide +kernel
theorem d_D_append_45 : decode b_D_append 45 = .ok (.i2b, 1) := by decide +kernel
theorem d_D_append_46 : decode b_D_append 46 = .ok (.bastore, 1) := by decide +kernel
theorem d_D_append_47 : decode b_D_append 47 = .ok (.aload_n 0, 1) := by decide +kernel
theorem d_D_append_48 : decode b_D_append 48 = .ok (.dup, 1) := by decide +kernel
theorem d_D_append_49 : decode b_D_append 49 = .ok (.getfield 31, 3) := by decide +kernel
theorem d_D_append_52 : decode b_D_append 52 = .ok (.iconst 1, 1) := by decide +kernel
theorem d_D_append_53 : decode b_D_append 53 = .ok (.iadd, 1) := by decide +kernel
theorem d_D_append_54 : decode b_D_append 54 = .ok (.putfield 31, 3) := by decide +kernel
theorem d_D_append_57 : decode b_D_append 57 = .ok (.iinc 4 (-1), 3) := by decide +kernel
theorem d_D_append_60 : decode b_D_append 60 = .ok (.goto (-55), 3) := by decide +kernel
theorem d_D_append_63 : decode b_D_append 63 = .ok (.return_, 1) := by decide +kernel
theorem zy_D_isBelowRanges : zy y_D_isBelowRanges b_D_isBelowRanges 4 (some .boolean) 1 := ⟨zmem 709 (by decide +kernel) (by decide +kernel), zmem 68 (by decide +kernel) (by decide +kernel), by decide +kernel⟩
theorem zv_D_isBelowRanges : Cond.instanceMethod y_D_isBelowRanges ∈ ztb ∧ Cond.selects y_D_isBelowRanges.cls y_D_isBelowRanges y_D_isBelowRanges ∈ ztb := ⟨zmem 707 (by decide +kernel) (by decide +kernel), zmem 708 (by decide +kernel) (by decide +kernel)⟩
theorem d_D_isBelowRanges_0 : decode b_D_isBelowRanges 0 = .ok (.aload_n 0, 1) := by decide +kernel
theorem d_D_isBelowRanges_1 : decode b_D_isBelowRanges 1 = .ok (.getfield 35, 3) := by decide +kernel
theorem d_D_isBelowRanges_4 : decode b_D_isBelowRanges 4 = .ok (.iconst 1, 1) := by decide +kernel
theorem d_D_isBelowRanges_5 : decode b_D_isBelowRanges 5 = .ok (.isub, 1) := by decide +kernel
theorem d_D_isBelowRanges_6 : decode b_D_isBelowRanges 6 = .ok (.istore_n 3, 1) := by decide +kernel
theorem d_D_isBelowRanges_7 : decode b_D_isBelowRanges 7 = .ok (.iload_n 3, 1) := by decide +kernel
theorem d_D_isBelowRanges_8 : decode b_D_isBelowRanges 8 = .ok (.ifCond .lt 27, 3) := by decide +kernel
theorem d_D_isBelowRanges_11 : decode b_D_isBelowRanges 11 = .ok (.iload_n 3, 1) := by decide +kernel
theorem d_D_isBelowRanges_12 : decode b_D_isBelowRanges 12 = .ok (.aload_n 0, 1) := by decide +kernel
theorem d_D_isBelowRanges_13 : decode b_D_isBelowRanges 13 = .ok (.getfield 19, 3) := by decide +kernel
theorem d_D_isBelowRanges_16 : decode b_D_isBelowRanges 16 = .ok (.arraylength, 1) := by decide +kernel
theorem d_D_isBelowRanges_17 : decode b_D_isBelowRanges 17 = .ok (.if_icmp .ge 18, 3) := by decide +kernel
theorem d_D_isBelowRanges_20 : decode b_D_isBelowRanges 20 = .ok (.lload_n 1, 1) := by decide +kernel
theorem d_D_isBelowRanges_21 : decode b_D_isBelowRanges 21 = .ok (.aload_n 0, 1) := by decide +kernel
theorem d_D_isBelowRanges_22 : decode b_D_isBelowRanges 22 = .ok (.getfield 19, 3) := by decide +kernel
theorem d_D_isBelowRanges_25 : decode b_D_isBelowRanges 25 = .ok (.iload_n 3, 1) := by decide +kernel
theorem d_D_isBelowRanges_26 : decode b_D_isBelowRanges 26 = .ok (.laload, 1) := by decide +kernel
theorem d_D_isBelowRanges_27 : decode b_D_isBelowRanges 27 = .ok (.ldc2_w 38, 3) := by decide +kernel
theorem d_D_isBelowRanges_30 : decode b_D_isBelowRanges 30 = .ok (.lsub, 1) := by decide +kernel
theorem d_D_isBelowRanges_31 : decode b_D_isBelowRanges 31 = .ok (.lcmp, 1) := by decide +kernel
theorem d_D_isBelowRanges_32 : decode b_D_isBelowRanges 32 = .ok (.ifCond .gt 7, 3) := by decide +kernel
theorem d_D_isBelowRanges_35 : decode b_D_isBelowRanges 35 = .ok (.iconst 1, 1) := by decide +kernel
theorem d_D_isBelowRanges_36 : decode b_D_isBelowRanges 36 = .ok (.goto 4, 3) := by decide +kernel
theorem d_D_isBelowRanges_39 : decode b_D_isBelowRanges 39 = .ok (.iconst 0, 1) := by decide +kernel
theorem d_D_isBelowRanges_40 : decode b_D_isBelowRanges 40 = .ok (.ireturn, 1) := by decide +kernel
theorem zy_D_appendRange : zy y_D_appendRange b_D_appendRange 5 none 2 := ⟨zmem 716 (by decide +kernel) (by decide +kernel), zmem 68 (by decide +kernel) (by decide +kernel), by decide +kernel⟩
theorem zv_D_appendRange : Cond.instanceMethod y_D_appendRange ∈ ztb ∧ Cond.selects y_D_appendRange.cls y_D_appendRange y_D_appendRange ∈ ztb := ⟨zmem 714 (by decide +kernel) (by decide +kernel), zmem 715 (by decide +kernel) (by decide +kernel)⟩
theorem d_D_appendRange_0 : decode b_D_appendRange 0 = .ok (.aload_n 0, 1) := by decide +kernel
theorem d_D_appendRange_1 : decode b_D_appendRange 1 = .ok (.getfield 35, 3) := by decide +kernel
theorem d_D_appendRange_4 : decode b_D_appendRange 4 = .ok (.ifCond .lt 57, 3) := by decide +kernel
theorem d_D_appendRange_7 : decode b_D_appendRange 7 = .ok (.aload_n 0, 1) := by decide +kernel
theorem d_D_appendRange_8 : decode b_D_appendRange 8 = .ok (.getfield 35, 3) := by decide +kernel
theorem d_D_appendRange_11 : decode b_D_appendRange 11 = .ok (.aload_n 0, 1) := by decide +kernel
theorem d_D_appendRange_12 : decode b_D_appendRange 12 = .ok (.getfield 19, 3) := by decide +kernel
theorem d_D_appendRange_15 : decode b_D_appendRange 15 = .ok (.arraylength, 1) := by decide +kernel
theorem d_D_appendRange_16 : decode b_D_appendRange 16 = .ok (.if_icmp .ge 45, 3) := by decide +kernel
theorem d_D_appendRange_19 : decode b_D_appendRange 19 = .ok (.aload_n 0, 1) := by decide +kernel
theorem d_D_appendRange_20 : decode b_D_appendRange 20 = .ok (.getfield 35, 3) := by decide +kernel
theorem d_D_appendRange_23 : decode b_D_appendRange 23 = .ok (.aload_n 0, 1) := by decide +kernel
theorem d_D_appendRange_24 : decode b_D_appendRange 24 = .ok (.getfield 22, 3) := by decide +kernel
theorem d_D_appendRange_27 : decode b_D_appendRange 27 = .ok (.arraylength, 1) := by decide +kernel
theorem d_D_appendRange_28 : decode b_D_appendRange 28 = .ok (.if_icmp .ge 33, 3) := by decide +kernel
theorem d_D_appendRange_31 : decode b_D_appendRange 31 = .ok (.aload_n 0, 1) := by decide +kernel
theorem d_D_appendRange_32 : decode b_D_appendRange 32 = .ok (.getfield 19, 3) := by decide +kernel
theorem d_D_appendRange_35 : decode b_D_appendRange 35 = .ok (.aload_n 0, 1) := by decide +kernel
theorem d_D_appendRange_36 : decode b_D_appendRange 36 = .ok (.getfield 35, 3) := by decide +kernel
theorem d_D_appendRange_39 : decode b_D_appendRange 39 = .ok (.lload_n 1, 1) := by decide +kernel
theorem d_D_appendRange_40 : decode b_D_appendRange 40 = .ok (.lastore, 1) := by decide +kernel
theorem d_D_appendRange_41 : decode b_D_appendRange 41 = .ok (.aload_n 0, 1) := by decide +kernel
theorem d_D_appendRange_42 : decode b_D_appendRange 42 = .ok (.getfield 22, 3) := by decide +kernel
theorem d_D_appendRange_45 : decode b_D_appendRange 45 = .ok (.aload_n 0, 1) := by decide +kernel
theorem d_D_appendRange_46 : decode b_D_appendRange 46 = .ok (.getfield 35, 3) := by decide +kernel
theorem d_D_appendRange_49 : decode b_D_appendRange 49 = .ok (.lload_n 3, 1) := by decide +kernel
theorem d_D_appendRange_50 : decode b_D_appendRange 50 = .ok (.lastore, 1) := by decide +kernel
theorem d_D_appendRange_51 : decode b_D_appendRange 51 = .ok (.aload_n 0, 1) := by decide +kernel
theorem d_D_appendRange_52 : decode b_D_appendRange 52 = .ok (.dup, 1) := by decide +kernel
theorem d_D_appendRange_53 : decode b_D_appendRange 53 = .ok (.getfield 35, 3) := by decide +kernel
theorem d_D_appendRange_56 : decode b_D_appendRange 56 = .ok (.iconst 1, 1) := by decide +kernel
theorem d_D_appendRange_57 : decode b_D_appendRange 57 = .ok (.iadd, 1) := by decide +kernel
theorem d_D_appendRange_58 : decode b_D_appendRange 58 = .ok (.putfield 35, 3) := by decide +kernel
theorem d_D_appendRange_61 : decode b_D_appendRange 61 = .ok (.return_, 1) := by decide +kernel
theorem zini_1 : Cond.initialized (zE 1) ∈ ztb := zmem 77 (by decide +kernel) (by decide +kernel)
theorem zfit_1 : Bundle.fit (zE 1) = true ∧ zCdec (zIx 1) (zBx 1) := ⟨by decide +kernel, by decide +kernel, by decide +kernel, by decide +kernel, by decide +kernel⟩
theorem zat_W_64 : (zown R_W 64 (zE 1) (zIx 1) (zBx 1)).all zhas = true := by decide +kernel
theorem zini_3 : Cond.initialized (zE 3) ∈ ztb := zmem 79 (by decide +kernel) (by decide +kernel)
theorem zfit_3 : Bundle.fit (zE 3) = true ∧ zCdec (zIx 3) (zBx 3) := ⟨by decide +kernel, by decide +kernel, by decide +kernel, by decide +kernel, by decide +kernel⟩
theorem zat_W_168 : (zown R_W 168 (zE 3) (zIx 3) (zBx 3)).all zhas = true := by decide +kernel
theorem znest_D_95 : Cond.methodLinkNest R_D 95 y_W_fieldsHold "WireCodec" ∈ zN := zmemN 753 (by decide +kernel) rfl
theorem znest_T_41 : Cond.methodLinkNest R_T 41 y_W_fewestBytes "WireCodec" ∈ zN := zmemN 477 (by decide +kernel) rfl
theorem znest_F_49 : Cond.methodLinkNest R_F 49 y_W_fieldsHold "WireCodec" ∈ zN := zmemN 619 (by decide +kernel) rfl
theorem zin_W_12 : Cond.fieldLink R_W 12 "WireCodec" "tape" "LWireCodec$Tape;" ∈ ztb := zmem 277 (by decide +kernel) (by decide +kernel)
theorem zin_W_95 : Cond.fieldLink R_W 95 "WireCodec$Tape" "length" "I" ∈ ztb := zmem 97 (by decide +kernel) (by decide +kernel)
theorem zin_W_28 : Cond.fieldLink R_W 28 "WireCodec" "reading" "LWireCodec$Reading;" ∈ ztb := zmem 279 (by decide +kernel) (by decide +kernel)
theorem zin_W_158 : Cond.fieldLink R_W 158 "WireCodec$Reading" "wrong" "I" ∈ ztb := zmem 150 (by decide +kernel) (by decide +kernel)
theorem zin_W_155 : Cond.fieldLink R_W 155 "WireCodec$Reading" "wrongPlace" "I" ∈ ztb := zmem 152 (by decide +kernel) (by decide +kernel)
theorem zin_W_49 : Cond.fieldLink R_W 49 "WireCodec" "drafted" "LWireCodec$Draft;" ∈ ztb := zmem 282 (by decide +kernel) (by decide +kernel)
theorem zin_W_205 : Cond.fieldLink R_W 205 "WireCodec$Draft" "parts" "[J" ∈ ztb := zmem 223 (by decide +kernel) (by decide +kernel)
theorem zin_W_60 : Cond.classLink R_W 60 (zE 1) ∈ ztb := zmem 340 (by decide +kernel) (by decide +kernel)
theorem zin_W_164 : Cond.classLink R_W 164 (zE 3) ∈ ztb := zmem 492 (by decide +kernel) (by decide +kernel)
theorem zin_W_56 : Cond.fieldLink R_W 56 "WireCodec" "told" "LWireCodec$Parameters;" ∈ ztb := zmem 283 (by decide +kernel) (by decide +kernel)
theorem zin_W_300 : Cond.fieldLink R_W 300 "WireCodec$Parameters" "values" "[J" ∈ ztb := zmem 269 (by decide +kernel) (by decide +kernel)
theorem zin_W_317 : Cond.constantLong R_W 317 (4611686018427387903 : Int64) ∈ ztb := zmem 462 (by decide +kernel) (by decide +kernel)
theorem zin_W_125 : Cond.constantLong R_W 125 (-1 : Int64) ∈ ztb := zmem 540 (by decide +kernel) (by decide +kernel)
theorem zin_W_78 : Cond.methodLink R_W 78 y_W_isNumber ∈ ztb := zmem 459 (by decide +kernel) (by decide +kernel)
theorem zin_W_319 : Cond.constantLong R_W 319 (64 : Int64) ∈ ztb := zmem 469 (by decide +kernel) (by decide +kernel)
theorem zin_W_321 : Cond.constantLong R_W 321 (16384 : Int64) ∈ ztb := zmem 470 (by decide +kernel) (by decide +kernel)
theorem zin_W_323 : Cond.constantLong R_W 323 (1073741824 : Int64) ∈ ztb := zmem 471 (by decide +kernel) (by decide +kernel)
theorem zin_W_325 : Cond.constantLong R_W 325 (1152921504606846976 : Int64) ∈ ztb := zmem 622 (by decide +kernel) (by decide +kernel)
theorem zin_W_327 : Cond.constantLong R_W 327 (20 : Int64) ∈ ztb := zmem 623 (by decide +kernel) (by decide +kernel)
theorem zin_D_31 : Cond.fieldLink R_D 31 "WireCodec$Draft" "length" "I" ∈ ztb := zmem 227 (by decide +kernel) (by decide +kernel)
theorem zin_D_15 : Cond.fieldLink R_D 15 "WireCodec$Draft" "bytes" "[B" ∈ ztb := zmem 224 (by decide +kernel) (by decide +kernel)
theorem zin_D_35 : Cond.fieldLink R_D 35 "WireCodec$Draft" "ranges" "I" ∈ ztb := zmem 229 (by decide +kernel) (by decide +kernel)
theorem zin_D_19 : Cond.fieldLink R_D 19 "WireCodec$Draft" "lows" "[J" ∈ ztb := zmem 225 (by decide +kernel) (by decide +kernel)
theorem zin_D_38 : Cond.constantLong R_D 38 (2 : Int64) ∈ ztb := zmem 710 (by decide +kernel) (by decide +kernel)
theorem zin_D_22 : Cond.fieldLink R_D 22 "WireCodec$Draft" "highs" "[J" ∈ ztb := zmem 226 (by decide +kernel) (by decide +kernel)
noncomputable def g_W_size (sT : zT) : Option (Int32) := some (zT_length sT)
def q_W_size (dC : Nat → ClassId) (dI : Nat → Nat → Nat) (cB cI cL : ClassId) (A : Nat → Prop) (adW : Nat) (adT : Nat) (adT_bytes : Nat) (adR : Nat) (adG : Nat) (adF : Nat) (adH : Nat) (adD : Nat) (adP : Nat) (sT : zT) (a : Int32) : Array Value → State → Outcome → State → Prop := va_Qi (fun (r : Int32) (u : Unit) => (r) = a) (fun u U => va_P (dC, dI) zcl (zwW adW adT adR adG adF adH adD adP ++ zwT adT adT_bytes cB cI cL sT) U.heap ∧ va_D A (zwW adW adT adR adG adF adH adD adP ++ zwT adT adT_bytes cB cI cL sT)) A
set_option maxRecDepth 100000 in
set_option maxHeartbeats 4000000 in
theorem k_W_size_0 {p : Program} {l : Launch} {e : Env} {R : Room} {s : State} {m : MethodId} {args : Array Value} {below : List Frame} {meth : Method} {c : Code} {dC : Nat → ClassId} {dI : Nat → Nat → Nat} {cB cI cL : ClassId} {A : Nat → Prop} {adR adG adF adH adD adP : Nat} (X : zx p s m args meth c R R_W b_W_size (some .int) 1 0 0) (hA : ∀ q, s.heap.size ≤ q → A q) (zz : zk dC dI cB cI cL A s)  (sT : zT) (a : Int32) (hG : g_W_size sT = some a) (adW adT adT_bytes : Nat) (H : Heap) (locs : List Loc) (hP : va_P (dC, dI) zcl (zwW adW adT adR adG adF adH adD adP ++ zwT adT adT_bytes cB cI cL sT) H) (hD : va_D A (zwW adW adT adR adG adF adH adD adP ++ zwT adT adT_bytes cB cI cL sT)) (hS : va_S A s.heap H locs) (ls : Array Slot) (hl : lv_has ls 1 [(0, .ref adW)]) : W p l e R s m args below meth c H locs 0 0 (MQ below (q_W_size dC dI cB cI cL A adW adT adT_bytes adR adG adF adH adD adP sT a) args s 0 0 A) (F0 m 0 ls []) := by
  obtain ⟨hx, hb, hr, hml, hown, hts, hlocks, hRf, hRl⟩ := id X
  unfold g_W_size at hG
  refine lv_aload_n hx hb d_W_size_0 rfl (lv_at hl 0 rfl) ?_
  refine va_get (D := (dC, dI)) (ci := 0) (v := .ref adT) (C := R_W) (T := F_W) (N := 7) hx hb hts zi_W hown zz.1 hP 0 rfl rfl 0 (by decide) (hts (.fieldLink R_W 12 "WireCodec" "tape" "LWireCodec$Tape;") zin_W_12) (fun _ h9 => h9) rfl d_W_size_1 ?_
  refine va_get (D := (dC, dI)) (ci := 1) (v := .int (zT_length sT)) (C := R_T) (T := F_T) (N := 3) hx hb hts zi_T hown zz.1 hP 1 rfl rfl 2 (by decide) (hts (.fieldLink R_W 95 "WireCodec$Tape" "length" "I") zin_W_95) (fun _ h9 => h9) rfl d_W_size_4 ?_
  exact W.iret (v := zT_length sT) hx hb hr (fun t9 ht9 hW9 => ⟨⟨zT_length sT, (), rfl, Option.some.inj hG, by rw [ht9]; exact hP, hD⟩, hS.F ht9⟩) hS.2.2 d_W_size_7
set_option maxRecDepth 100000 in
set_option maxHeartbeats 4000000 in
theorem c_W_size (l : Launch) (dC : Nat → ClassId) (dI : Nat → Nat → Nat) (cB cI cL : ClassId) (sz : Nat) (adW adT adT_bytes adR adG adF adH adD adP : Nat) (sT : zT) (a : Int32) (hG : g_W_size sT = some a) : Met l y_W_size (zw y_W_size b_W_size 1 (some .int)) ({ frames := 0, cells := 0, slots := 0, locals := 0 }) (va_Pc [.ref adW] (zpre dC dI cB cI cL sz (zwW adW adT adR adG adF adH adD adP ++ zwT adT adT_bytes cB cI cL sT))) (q_W_size dC dI cB cI cL (va_A (zwW adW adT adR adG adF adH adD adP ++ zwT adT adT_bytes cB cI cL sT) sz) adW adT adT_bytes adR adG adF adH adD adP sT a) 0 0 (va_A (zwW adW adT adR adG adF adH adD adP ++ zwT adT adT_bytes cB cI cL sT) sz) := by
  refine Met.ofW (cc := b_W_size) (maxL := 1) (ret := (some .int)) (by decide) rfl ?_
  intro p e s m args below meth c s₁ B hml hv
  obtain ⟨rfl, hsz, hP, zz, hD0⟩ := hv
  subst hsz
  have X := zx_of (F := 0) (L := 0) B hml (Nat.le_refl _) (Nat.le_refl _)
  have hD := hD0.self (sz := s.heap.size)
  have hA : ∀ q : Nat, s.heap.size ≤ q → va_A (zwW adW adT adR adG adF adH adD adP ++ zwT adT adT_bytes cB cI cL sT) s.heap.size q := fun q h => Or.inr h
  have hl := lv_entry ([.ref adW]) (n := 1) (Nat.le_of_ble_eq_true rfl)
  rw [lg_entry_eq]
  generalize (lg_sl ([.ref adW]) ++ List.replicate (1 - (lg_sl ([.ref adW])).length) Slot.unset).toArray = ls at hl ⊢
  exact k_W_size_0 X hA zz sT a hG adW adT adT_bytes _ _ hP hD va_S.rf ls hl
noncomputable def g_W_fault_21 (sG : zG) (s0 : Int32) : Option (Int32) := some (s0)
noncomputable def g_W_fault (sG : zG) (v1 : Int32) : Option (Int32) := if v1 = (0 : Int32) then (g_W_fault_21 sG (zG_wrong sG)) else (g_W_fault_21 sG (zG_wrongPlace sG))
def q_W_fault (dC : Nat → ClassId) (dI : Nat → Nat → Nat) (cB cI cL : ClassId) (A : Nat → Prop) (adW : Nat) (adG : Nat) (adG_places : Nat) (adT : Nat) (adR : Nat) (adF : Nat) (adH : Nat) (adD : Nat) (adP : Nat) (sG : zG) (a : Int32) : Array Value → State → Outcome → State → Prop := va_Qi (fun (r : Int32) (u : Unit) => (r) = a) (fun u U => va_P (dC, dI) zcl (zwW adW adT adR adG adF adH adD adP ++ zwG adG adG_places cB cI cL sG) U.heap ∧ va_D A (zwW adW adT adR adG adF adH adD adP ++ zwG adG adG_places cB cI cL sG)) A
set_option maxRecDepth 100000 in
set_option maxHeartbeats 4000000 in
theorem k_W_fault_21 {p : Program} {l : Launch} {e : Env} {R : Room} {s : State} {m : MethodId} {args : Array Value} {below : List Frame} {meth : Method} {c : Code} {dC : Nat → ClassId} {dI : Nat → Nat → Nat} {cB cI cL : ClassId} {A : Nat → Prop} {adT adR adF adH adD adP : Nat} (X : zx p s m args meth c R R_W b_W_fault (some .int) 2 0 0) (hA : ∀ q, s.heap.size ≤ q → A q) (zz : zk dC dI cB cI cL A s)  (sG : zG) (s0 : Int32) (a : Int32) (hG : g_W_fault_21 sG s0 = some a) (adW adG adG_places : Nat) (H : Heap) (locs : List Loc) (hP : va_P (dC, dI) zcl (zwW adW adT adR adG adF adH adD adP ++ zwG adG adG_places cB cI cL sG) H) (hD : va_D A (zwW adW adT adR adG adF adH adD adP ++ zwG adG adG_places cB cI cL sG)) (hS : va_S A s.heap H locs) (ls : Array Slot) (hl : lv_has ls 2 []) : W p l e R s m args below meth c H locs 0 0 (MQ below (q_W_fault dC dI cB cI cL A adW adG adG_places adT adR adF adH adD adP sG a) args s 0 0 A) (F0 m 21 ls [.int s0]) := by
  obtain ⟨hx, hb, hr, hml, hown, hts, hlocks, hRf, hRl⟩ := id X
  unfold g_W_fault_21 at hG
  exact W.iret (v := s0) hx hb hr (fun t9 ht9 hW9 => ⟨⟨s0, (), rfl, Option.some.inj hG, by rw [ht9]; exact hP, hD⟩, hS.F ht9⟩) hS.2.2 d_W_fault_21
set_option maxRecDepth 100000 in
set_option maxHeartbeats 4000000 in
theorem k_W_fault_0 {p : Program} {l : Launch} {e : Env} {R : Room} {s : State} {m : MethodId} {args : Array Value} {below : List Frame} {meth : Method} {c : Code} {dC : Nat → ClassId} {dI : Nat → Nat → Nat} {cB cI cL : ClassId} {A : Nat → Prop} {adT adR adF adH adD adP : Nat} (X : zx p s m args meth c R R_W b_W_fault (some .int) 2 0 0) (hA : ∀ q, s.heap.size ≤ q → A q) (zz : zk dC dI cB cI cL A s)  (sG : zG) (v1 : Int32) (a : Int32) (hG : g_W_fault sG v1 = some a) (adW adG adG_places : Nat) (H : Heap) (locs : List Loc) (hP : va_P (dC, dI) zcl (zwW adW adT adR adG adF adH adD adP ++ zwG adG adG_places cB cI cL sG) H) (hD : va_D A (zwW adW adT adR adG adF adH adD adP ++ zwG adG adG_places cB cI cL sG)) (hS : va_S A s.heap H locs) (ls : Array Slot) (hl : lv_has ls 2 [(0, .ref adW), (1, .int v1)]) : W p l e R s m args below meth c H locs 0 0 (MQ below (q_W_fault dC dI cB cI cL A adW adG adG_places adT adR adF adH adD adP sG a) args s 0 0 A) (F0 m 0 ls []) := by
  obtain ⟨hx, hb, hr, hml, hown, hts, hlocks, hRf, hRl⟩ := id X
  unfold g_W_fault at hG
  refine lv_iload_n hx hb d_W_fault_0 rfl (lv_at hl 1 rfl) ?_
  refine lv_if_eq (tgt := 14) hx hb d_W_fault_1 (by decide) (fun hc => ?_) (fun hc => ?_)
  · have hG := zt hG hc
    refine lv_aload_n hx hb d_W_fault_14 rfl (lv_at hl 0 rfl) ?_
    refine va_get (D := (dC, dI)) (ci := 0) (v := .ref adG) (C := R_W) (T := F_W) (N := 7) hx hb hts zi_W hown zz.1 hP 0 rfl rfl 2 (by decide) (hts (.fieldLink R_W 28 "WireCodec" "reading" "LWireCodec$Reading;") zin_W_28) (fun _ h9 => h9) rfl d_W_fault_15 ?_
    refine va_get (D := (dC, dI)) (ci := 3) (v := .int (zG_wrong sG)) (C := R_G) (T := F_G) (N := 7) hx hb hts zi_G hown zz.1 hP 1 rfl rfl 5 (by decide) (hts (.fieldLink R_W 158 "WireCodec$Reading" "wrong" "I") zin_W_158) (fun _ h9 => h9) rfl d_W_fault_18 ?_
    exact k_W_fault_21 X hA zz sG (zG_wrong sG) _ hG adW adG adG_places _ _ hP hD hS _ (lv_sub hl [] rfl)
  · have hG := zf hG hc
    refine lv_aload_n hx hb d_W_fault_4 rfl (lv_at hl 0 rfl) ?_
    refine va_get (D := (dC, dI)) (ci := 0) (v := .ref adG) (C := R_W) (T := F_W) (N := 7) hx hb hts zi_W hown zz.1 hP 0 rfl rfl 2 (by decide) (hts (.fieldLink R_W 28 "WireCodec" "reading" "LWireCodec$Reading;") zin_W_28) (fun _ h9 => h9) rfl d_W_fault_5 ?_
    refine va_get (D := (dC, dI)) (ci := 3) (v := .int (zG_wrongPlace sG)) (C := R_G) (T := F_G) (N := 7) hx hb hts zi_G hown zz.1 hP 1 rfl rfl 6 (by decide) (hts (.fieldLink R_W 155 "WireCodec$Reading" "wrongPlace" "I") zin_W_155) (fun _ h9 => h9) rfl d_W_fault_8 ?_
    refine lv_goto (tgt := 21) hx hb d_W_fault_11 (by decide) ?_
    exact k_W_fault_21 X hA zz sG (zG_wrongPlace sG) _ hG adW adG adG_places _ _ hP hD hS _ (lv_sub hl [] rfl)
set_option maxRecDepth 100000 in
set_option maxHeartbeats 4000000 in
theorem c_W_fault (l : Launch) (dC : Nat → ClassId) (dI : Nat → Nat → Nat) (cB cI cL : ClassId) (sz : Nat) (adW adG adG_places adT adR adF adH adD adP : Nat) (sG : zG) (v1 : Int32) (a : Int32) (hG : g_W_fault sG v1 = some a) : Met l y_W_fault (zw y_W_fault b_W_fault 2 (some .int)) ({ frames := 0, cells := 0, slots := 0, locals := 0 }) (va_Pc [.ref adW, .int v1] (zpre dC dI cB cI cL sz (zwW adW adT adR adG adF adH adD adP ++ zwG adG adG_places cB cI cL sG))) (q_W_fault dC dI cB cI cL (va_A (zwW adW adT adR adG adF adH adD adP ++ zwG adG adG_places cB cI cL sG) sz) adW adG adG_places adT adR adF adH adD adP sG a) 0 0 (va_A (zwW adW adT adR adG adF adH adD adP ++ zwG adG adG_places cB cI cL sG) sz) := by
  refine Met.ofW (cc := b_W_fault) (maxL := 2) (ret := (some .int)) (by decide) rfl ?_
  intro p e s m args below meth c s₁ B hml hv
  obtain ⟨rfl, hsz, hP, zz, hD0⟩ := hv
  subst hsz
  have X := zx_of (F := 0) (L := 0) B hml (Nat.le_refl _) (Nat.le_refl _)
  have hD := hD0.self (sz := s.heap.size)
  have hA : ∀ q : Nat, s.heap.size ≤ q → va_A (zwW adW adT adR adG adF adH adD adP ++ zwG adG adG_places cB cI cL sG) s.heap.size q := fun q h => Or.inr h
  have hl := lv_entry ([.ref adW, .int v1]) (n := 2) (Nat.le_of_ble_eq_true rfl)
  rw [lg_entry_eq]
  generalize (lg_sl ([.ref adW, .int v1]) ++ List.replicate (2 - (lg_sl ([.ref adW, .int v1])).length) Slot.unset).toArray = ls at hl ⊢
  exact k_W_fault_0 X hA zz sG v1 a hG adW adG adG_places _ _ hP hD va_S.rf ls hl
noncomputable def g_W_set_w64 (sD_64 : zD) : Option ((Unit ⊕ Nat) × zD) := some (.inl (), sD_64)
noncomputable def g_W_set_55 (sD : zD) (v1 : Int32) (v2 : Int64) : Option ((Unit ⊕ Nat) × zD) := zg (vp_in v1 12) (g_W_set_w64 (zD_parts' sD (vp_updL (zD_parts sD) v1.toNatClampNeg v2)))
noncomputable def g_W_set_33 (sD : zD) (v1 : Int32) (v2 : Int64) (v4 : Int32) (s0 : Int32) : Option ((Unit ⊕ Nat) × zD) := if v4 = (0 : Int32) then (if s0 = (0 : Int32) then (some (.inr 1, sD)) else (g_W_set_55 sD v1 v2)) else (g_W_set_55 sD v1 v2)
noncomputable def g_W_set_32 (sD : zD) (v1 : Int32) (v2 : Int64) (v4 : Int32) : Option ((Unit ⊕ Nat) × zD) := g_W_set_33 sD v1 v2 v4 (0 : Int32)
noncomputable def g_W_set_14 (sD : zD) (v1 : Int32) (v2 : Int64) (s0 : Int32) : Option ((Unit ⊕ Nat) × zD) := if v1 < (9 : Int32) then (g_W_set_32 sD v1 v2 s0) else (if (12 : Int32) ≤ v1 then (g_W_set_32 sD v1 v2 s0) else (g_W_set_33 sD v1 v2 s0 (1 : Int32)))
noncomputable def g_W_set_13 (sD : zD) (v1 : Int32) (v2 : Int64) : Option ((Unit ⊕ Nat) × zD) := g_W_set_14 sD v1 v2 (0 : Int32)
noncomputable def g_W_set (sD : zD) (v1 : Int32) (v2 : Int64) : Option ((Unit ⊕ Nat) × zD) := if v1 < (0 : Int32) then (g_W_set_13 sD v1 v2) else (if (3 : Int32) < v1 then (g_W_set_13 sD v1 v2) else (g_W_set_14 sD v1 v2 (1 : Int32)))
def q_W_set (dC : Nat → ClassId) (dI : Nat → Nat → Nat) (cB cI cL : ClassId) (A : Nat → Prop) (adW : Nat) (adD : Nat) (adD_parts : Nat) (adD_bytes : Nat) (adD_lows : Nat) (adD_highs : Nat) (adT : Nat) (adR : Nat) (adG : Nat) (adF : Nat) (adH : Nat) (adP : Nat) (a : (Unit ⊕ Nat) × zD) : Array Value → State → Outcome → State → Prop := zQx (α := Unit) (fun _ => none) (fun r (u : zD) => (r, u) = a) (dC, dI) (fun u => (zwW adW adT adR adG adF adH adD adP ++ zwD adD adD_parts adD_bytes adD_lows adD_highs cB cI cL u)) A
set_option maxRecDepth 100000 in
set_option maxHeartbeats 4000000 in
theorem k_W_set_55 {p : Program} {l : Launch} {e : Env} {R : Room} {s : State} {m : MethodId} {args : Array Value} {below : List Frame} {meth : Method} {c : Code} {dC : Nat → ClassId} {dI : Nat → Nat → Nat} {cB cI cL : ClassId} {A : Nat → Prop} {adT adR adG adF adH adP : Nat} (X : zx p s m args meth c R R_W b_W_set none 6 6 98) (hA : ∀ q, s.heap.size ≤ q → A q) (zz : zk dC dI cB cI cL A s) (htr : l.stackTraces = false) (hnh : c.exceptionTable.isEmpty = true) (hAs : ∀ q, A q → ∀ cell, s.heap[q]? = some cell → cell.vm.isStatics = false) (hRc : 1 ≤ R.cells) (hRz : 6 ≤ R.slots)  (sD : zD) (v1 : Int32) (v2 : Int64) (a : (Unit ⊕ Nat) × zD) (hG : g_W_set_55 sD v1 v2 = some a) (adW adD adD_parts adD_bytes adD_lows adD_highs : Nat) (H : Heap) (locs : List Loc) (hP : va_P (dC, dI) zcl (zwW adW adT adR adG adF adH adD adP ++ zwD adD adD_parts adD_bytes adD_lows adD_highs cB cI cL sD) H) (hD : va_D A (zwW adW adT adR adG adF adH adD adP ++ zwD adD adD_parts adD_bytes adD_lows adD_highs cB cI cL sD)) (hS : va_S A s.heap H locs) (ls : Array Slot) (hl : lv_has ls 6 [(0, .ref adW), (1, .int v1), (2, .long v2)]) : W p l e R s m args below meth c H locs 0 0 (zMQ below (q_W_set dC dI cB cI cL A adW adD adD_parts adD_bytes adD_lows adD_highs adT adR adG adF adH adP a) args s 1 6 A) (F0 m 55 ls []) := by
  obtain ⟨hx, hb, hr, hml, hown, hts, hlocks, hRf, hRl⟩ := id X
  unfold g_W_set_55 at hG
  refine lv_aload_n hx hb d_W_set_55 rfl (lv_at hl 0 rfl) ?_
  refine va_get (D := (dC, dI)) (ci := 0) (v := .ref adD) (C := R_W) (T := F_W) (N := 7) hx hb hts zi_W hown zz.1 hP 0 rfl rfl 5 (by decide) (hts (.fieldLink R_W 49 "WireCodec" "drafted" "LWireCodec$Draft;") zin_W_49) (fun _ h9 => h9) rfl d_W_set_56 ?_
  refine va_get (D := (dC, dI)) (ci := 6) (v := .ref adD_parts) (C := R_D) (T := F_D) (N := 6) hx hb hts zi_D hown zz.1 hP 1 rfl rfl 0 (by decide) (hts (.fieldLink R_W 205 "WireCodec$Draft" "parts" "[J") zin_W_205) (fun _ h9 => h9) rfl d_W_set_59 ?_
  refine lv_iload_n hx hb d_W_set_62 rfl (lv_at hl 1 rfl) ?_
  refine lv_lload_n hx hb d_W_set_63 rfl (lv_at hl 2 rfl) ?_
  obtain ⟨hin, hG⟩ := zgd hG
  refine va_last hx hb zz.1 hP hD hS 2 2 rfl rfl hin d_W_set_64 (fun H locs hP hD hS => ?_)
  have hP : va_P (dC, dI) zcl (zwW adW adT adR adG adF adH adD adP ++ zwD adD adD_parts adD_bytes adD_lows adD_highs cB cI cL (zD_parts' sD (vp_updL (zD_parts sD) v1.toNatClampNeg v2))) H := hP
  have hD : va_D A (zwW adW adT adR adG adF adH adD adP ++ zwD adD adD_parts adD_bytes adD_lows adD_highs cB cI cL (zD_parts' sD (vp_updL (zD_parts sD) v1.toNatClampNeg v2))) := hD
  have hG : g_W_set_w64 (zD_parts' sD (vp_updL (zD_parts sD) v1.toNatClampNeg v2)) = some a := hG
  generalize zD_parts' sD (vp_updL (zD_parts sD) v1.toNatClampNeg v2) = sD_64 at hP hD hG
  unfold g_W_set_w64 at hG
  refine W.widen (k := 1) (n := 6) (by decide) (by decide) ?_
  exact zxretv (u := (sD_64)) X hlocks (Option.some.inj hG) hP hD hS d_W_set_65
set_option maxRecDepth 100000 in
set_option maxHeartbeats 4000000 in
theorem k_W_set_33 {p : Program} {l : Launch} {e : Env} {R : Room} {s : State} {m : MethodId} {args : Array Value} {below : List Frame} {meth : Method} {c : Code} {dC : Nat → ClassId} {dI : Nat → Nat → Nat} {cB cI cL : ClassId} {A : Nat → Prop} {adT adR adG adF adH adP : Nat} (X : zx p s m args meth c R R_W b_W_set none 6 6 98) (hA : ∀ q, s.heap.size ≤ q → A q) (zz : zk dC dI cB cI cL A s) (htr : l.stackTraces = false) (hnh : c.exceptionTable.isEmpty = true) (hAs : ∀ q, A q → ∀ cell, s.heap[q]? = some cell → cell.vm.isStatics = false) (hRc : 1 ≤ R.cells) (hRz : 6 ≤ R.slots)  (sD : zD) (v1 : Int32) (v2 : Int64) (v4 : Int32) (s0 : Int32) (a : (Unit ⊕ Nat) × zD) (hG : g_W_set_33 sD v1 v2 v4 s0 = some a) (adW adD adD_parts adD_bytes adD_lows adD_highs : Nat) (H : Heap) (locs : List Loc) (hP : va_P (dC, dI) zcl (zwW adW adT adR adG adF adH adD adP ++ zwD adD adD_parts adD_bytes adD_lows adD_highs cB cI cL sD) H) (hD : va_D A (zwW adW adT adR adG adF adH adD adP ++ zwD adD adD_parts adD_bytes adD_lows adD_highs cB cI cL sD)) (hS : va_S A s.heap H locs) (ls : Array Slot) (hl : lv_has ls 6 [(0, .ref adW), (1, .int v1), (2, .long v2), (4, .int v4)]) : W p l e R s m args below meth c H locs 0 0 (zMQ below (q_W_set dC dI cB cI cL A adW adD adD_parts adD_bytes adD_lows adD_highs adT adR adG adF adH adP a) args s 1 6 A) (F0 m 33 ls [.int s0]) := by
  obtain ⟨hx, hb, hr, hml, hown, hts, hlocks, hRf, hRl⟩ := id X
  unfold g_W_set_33 at hG
  refine lv_istore (lv' := [(5, .int s0), (0, .ref adW), (1, .int v1), (2, .long v2), (4, .int v4)]) hx hb d_W_set_33 hl (by decide) rfl (fun ls hl => ?_)
  refine lv_iload hx hb d_W_set_35 (lv_at hl 4 rfl) ?_
  refine lv_if_ne (tgt := 55) hx hb d_W_set_37 (by decide) (fun hc => ?_) (fun hc => ?_)
  · have hG := zf hG hc
    exact k_W_set_55 X hA zz htr hnh hAs hRc hRz sD v1 v2 _ hG adW adD adD_parts adD_bytes adD_lows adD_highs _ _ hP hD hS _ (lv_sub hl [1, 2, 3] rfl)
  · have hG := zt hG hc
    refine lv_iload hx hb d_W_set_40 (lv_at hl 0 rfl) ?_
    refine lv_if_ne (tgt := 55) hx hb d_W_set_42 (by decide) (fun hc => ?_) (fun hc => ?_)
    · have hG := zf hG hc
      exact k_W_set_55 X hA zz htr hnh hAs hRc hRz sD v1 v2 _ hG adW adD adD_parts adD_bytes adD_lows adD_highs _ _ hP hD hS _ (lv_sub hl [1, 2, 3] rfl)
    · have hG := zt hG hc
      exact zthrow htr X zz hnh hAs hA hS 1 (text := "a draft has no such field") zin_W_60 zini_1 (by decide +kernel) zat_W_64 zfit_1 hl d_W_set_45 d_W_set_48 d_W_set_49 d_W_set_51 d_W_set_54 (Nat.le_trans (Nat.le_of_ble_eq_true rfl) hRf) (Nat.le_trans (Nat.le_of_ble_eq_true rfl) hRl) hRc hRz (by decide) (by decide) (fun t9 q9 hz9 ho9 ht9 => ⟨(sD), va_P.kept hP (zold hP ho9), hD, zFr hS hz9 ho9, Or.inr ⟨1, q9, rfl, Option.some.inj hG, ht9⟩⟩)
set_option maxRecDepth 100000 in
set_option maxHeartbeats 4000000 in
theorem k_W_set_32 {p : Program} {l : Launch} {e : Env} {R : Room} {s : State} {m : MethodId} {args : Array Value} {below : List Frame} {meth : Method} {c : Code} {dC : Nat → ClassId} {dI : Nat → Nat → Nat} {cB cI cL : ClassId} {A : Nat → Prop} {adT adR adG adF adH adP : Nat} (X : zx p s m args meth c R R_W b_W_set none 6 6 98) (hA : ∀ q, s.heap.size ≤ q → A q) (zz : zk dC dI cB cI cL A s) (htr : l.stackTraces = false) (hnh : c.exceptionTable.isEmpty = true) (hAs : ∀ q, A q → ∀ cell, s.heap[q]? = some cell → cell.vm.isStatics = false) (hRc : 1 ≤ R.cells) (hRz : 6 ≤ R.slots)  (sD : zD) (v1 : Int32) (v2 : Int64) (v4 : Int32) (a : (Unit ⊕ Nat) × zD) (hG : g_W_set_32 sD v1 v2 v4 = some a) (adW adD adD_parts adD_bytes adD_lows adD_highs : Nat) (H : Heap) (locs : List Loc) (hP : va_P (dC, dI) zcl (zwW adW adT adR adG adF adH adD adP ++ zwD adD adD_parts adD_bytes adD_lows adD_highs cB cI cL sD) H) (hD : va_D A (zwW adW adT adR adG adF adH adD adP ++ zwD adD adD_parts adD_bytes adD_lows adD_highs cB cI cL sD)) (hS : va_S A s.heap H locs) (ls : Array Slot) (hl : lv_has ls 6 [(0, .ref adW), (1, .int v1), (2, .long v2), (4, .int v4)]) : W p l e R s m args below meth c H locs 0 0 (zMQ below (q_W_set dC dI cB cI cL A adW adD adD_parts adD_bytes adD_lows adD_highs adT adR adG adF adH adP a) args s 1 6 A) (F0 m 32 ls []) := by
  obtain ⟨hx, hb, hr, hml, hown, hts, hlocks, hRf, hRl⟩ := id X
  unfold g_W_set_32 at hG
  refine lv_iconst (v := (0 : Int32)) hx hb d_W_set_32 (by decide) ?_
  exact k_W_set_33 X hA zz htr hnh hAs hRc hRz sD v1 v2 v4 (0 : Int32) _ hG adW adD adD_parts adD_bytes adD_lows adD_highs _ _ hP hD hS _ (lv_sub hl [0, 1, 2, 3] rfl)
set_option maxRecDepth 100000 in
set_option maxHeartbeats 4000000 in
theorem k_W_set_14 {p : Program} {l : Launch} {e : Env} {R : Room} {s : State} {m : MethodId} {args : Array Value} {below : List Frame} {meth : Method} {c : Code} {dC : Nat → ClassId} {dI : Nat → Nat → Nat} {cB cI cL : ClassId} {A : Nat → Prop} {adT adR adG adF adH adP : Nat} (X : zx p s m args meth c R R_W b_W_set none 6 6 98) (hA : ∀ q, s.heap.size ≤ q → A q) (zz : zk dC dI cB cI cL A s) (htr : l.stackTraces = false) (hnh : c.exceptionTable.isEmpty = true) (hAs : ∀ q, A q → ∀ cell, s.heap[q]? = some cell → cell.vm.isStatics = false) (hRc : 1 ≤ R.cells) (hRz : 6 ≤ R.slots)  (sD : zD) (v1 : Int32) (v2 : Int64) (s0 : Int32) (a : (Unit ⊕ Nat) × zD) (hG : g_W_set_14 sD v1 v2 s0 = some a) (adW adD adD_parts adD_bytes adD_lows adD_highs : Nat) (H : Heap) (locs : List Loc) (hP : va_P (dC, dI) zcl (zwW adW adT adR adG adF adH adD adP ++ zwD adD adD_parts adD_bytes adD_lows adD_highs cB cI cL sD) H) (hD : va_D A (zwW adW adT adR adG adF adH adD adP ++ zwD adD adD_parts adD_bytes adD_lows adD_highs cB cI cL sD)) (hS : va_S A s.heap H locs) (ls : Array Slot) (hl : lv_has ls 6 [(0, .ref adW), (1, .int v1), (2, .long v2)]) : W p l e R s m args below meth c H locs 0 0 (zMQ below (q_W_set dC dI cB cI cL A adW adD adD_parts adD_bytes adD_lows adD_highs adT adR adG adF adH adP a) args s 1 6 A) (F0 m 14 ls [.int s0]) := by
  obtain ⟨hx, hb, hr, hml, hown, hts, hlocks, hRf, hRl⟩ := id X
  unfold g_W_set_14 at hG
  refine lv_istore (lv' := [(4, .int s0), (0, .ref adW), (1, .int v1), (2, .long v2)]) hx hb d_W_set_14 hl (by decide) rfl (fun ls hl => ?_)
  refine lv_iload_n hx hb d_W_set_16 rfl (lv_at hl 2 rfl) ?_
  refine lv_bipush (v := (9 : Int32)) hx hb d_W_set_17 (by decide) ?_
  refine lv_icmp_lt (tgt := 32) hx hb d_W_set_19 (by decide) (fun hc => ?_) (fun hc => ?_)
  · have hG := zt hG hc
    exact k_W_set_32 X hA zz htr hnh hAs hRc hRz sD v1 v2 s0 _ hG adW adD adD_parts adD_bytes adD_lows adD_highs _ _ hP hD hS _ (lv_sub hl [1, 2, 3, 0] rfl)
  · have hG := zf hG hc
    refine lv_iload_n hx hb d_W_set_22 rfl (lv_at hl 2 rfl) ?_
    refine lv_bipush (v := (12 : Int32)) hx hb d_W_set_23 (by decide) ?_
    refine lv_icmp_ge (tgt := 32) hx hb d_W_set_25 (by decide) (fun hc => ?_) (fun hc => ?_)
    · have hG := zt hG hc
      exact k_W_set_32 X hA zz htr hnh hAs hRc hRz sD v1 v2 s0 _ hG adW adD adD_parts adD_bytes adD_lows adD_highs _ _ hP hD hS _ (lv_sub hl [1, 2, 3, 0] rfl)
    · have hG := zf hG hc
      refine lv_iconst (v := (1 : Int32)) hx hb d_W_set_28 (by decide) ?_
      refine lv_goto (tgt := 33) hx hb d_W_set_29 (by decide) ?_
      exact k_W_set_33 X hA zz htr hnh hAs hRc hRz sD v1 v2 s0 (1 : Int32) _ hG adW adD adD_parts adD_bytes adD_lows adD_highs _ _ hP hD hS _ (lv_sub hl [1, 2, 3, 0] rfl)
set_option maxRecDepth 100000 in
set_option maxHeartbeats 4000000 in
theorem k_W_set_13 {p : Program} {l : Launch} {e : Env} {R : Room} {s : State} {m : MethodId} {args : Array Value} {below : List Frame} {meth : Method} {c : Code} {dC : Nat → ClassId} {dI : Nat → Nat → Nat} {cB cI cL : ClassId} {A : Nat → Prop} {adT adR adG adF adH adP : Nat} (X : zx p s m args meth c R R_W b_W_set none 6 6 98) (hA : ∀ q, s.heap.size ≤ q → A q) (zz : zk dC dI cB cI cL A s) (htr : l.stackTraces = false) (hnh : c.exceptionTable.isEmpty = true) (hAs : ∀ q, A q → ∀ cell, s.heap[q]? = some cell → cell.vm.isStatics = false) (hRc : 1 ≤ R.cells) (hRz : 6 ≤ R.slots)  (sD : zD) (v1 : Int32) (v2 : Int64) (a : (Unit ⊕ Nat) × zD) (hG : g_W_set_13 sD v1 v2 = some a) (adW adD adD_parts adD_bytes adD_lows adD_highs : Nat) (H : Heap) (locs : List Loc) (hP : va_P (dC, dI) zcl (zwW adW adT adR adG adF adH adD adP ++ zwD adD adD_parts adD_bytes adD_lows adD_highs cB cI cL sD) H) (hD : va_D A (zwW adW adT adR adG adF adH adD adP ++ zwD adD adD_parts adD_bytes adD_lows adD_highs cB cI cL sD)) (hS : va_S A s.heap H locs) (ls : Array Slot) (hl : lv_has ls 6 [(0, .ref adW), (1, .int v1), (2, .long v2)]) : W p l e R s m args below meth c H locs 0 0 (zMQ below (q_W_set dC dI cB cI cL A adW adD adD_parts adD_bytes adD_lows adD_highs adT adR adG adF adH adP a) args s 1 6 A) (F0 m 13 ls []) := by
  obtain ⟨hx, hb, hr, hml, hown, hts, hlocks, hRf, hRl⟩ := id X
  unfold g_W_set_13 at hG
  refine lv_iconst (v := (0 : Int32)) hx hb d_W_set_13 (by decide) ?_
  exact k_W_set_14 X hA zz htr hnh hAs hRc hRz sD v1 v2 (0 : Int32) _ hG adW adD adD_parts adD_bytes adD_lows adD_highs _ _ hP hD hS _ (lv_sub hl [0, 1, 2] rfl)
set_option maxRecDepth 100000 in
set_option maxHeartbeats 4000000 in
theorem k_W_set_0 {p : Program} {l : Launch} {e : Env} {R : Room} {s : State} {m : MethodId} {args : Array Value} {below : List Frame} {meth : Method} {c : Code} {dC : Nat → ClassId} {dI : Nat → Nat → Nat} {cB cI cL : ClassId} {A : Nat → Prop} {adT adR adG adF adH adP : Nat} (X : zx p s m args meth c R R_W b_W_set none 6 6 98) (hA : ∀ q, s.heap.size ≤ q → A q) (zz : zk dC dI cB cI cL A s) (htr : l.stackTraces = false) (hnh : c.exceptionTable.isEmpty = true) (hAs : ∀ q, A q → ∀ cell, s.heap[q]? = some cell → cell.vm.isStatics = false) (hRc : 1 ≤ R.cells) (hRz : 6 ≤ R.slots)  (sD : zD) (v1 : Int32) (v2 : Int64) (a : (Unit ⊕ Nat) × zD) (hG : g_W_set sD v1 v2 = some a) (adW adD adD_parts adD_bytes adD_lows adD_highs : Nat) (H : Heap) (locs : List Loc) (hP : va_P (dC, dI) zcl (zwW adW adT adR adG adF adH adD adP ++ zwD adD adD_parts adD_bytes adD_lows adD_highs cB cI cL sD) H) (hD : va_D A (zwW adW adT adR adG adF adH adD adP ++ zwD adD adD_parts adD_bytes adD_lows adD_highs cB cI cL sD)) (hS : va_S A s.heap H locs) (ls : Array Slot) (hl : lv_has ls 6 [(0, .ref adW), (1, .int v1), (2, .long v2)]) : W p l e R s m args below meth c H locs 0 0 (zMQ below (q_W_set dC dI cB cI cL A adW adD adD_parts adD_bytes adD_lows adD_highs adT adR adG adF adH adP a) args s 1 6 A) (F0 m 0 ls []) := by
  obtain ⟨hx, hb, hr, hml, hown, hts, hlocks, hRf, hRl⟩ := id X
  unfold g_W_set at hG
  refine lv_iload_n hx hb d_W_set_0 rfl (lv_at hl 1 rfl) ?_
  refine lv_if_lt (tgt := 13) hx hb d_W_set_1 (by decide) (fun hc => ?_) (fun hc => ?_)
  · have hG := zt hG hc
    exact k_W_set_13 X hA zz htr hnh hAs hRc hRz sD v1 v2 _ hG adW adD adD_parts adD_bytes adD_lows adD_highs _ _ hP hD hS _ (lv_sub hl [0, 1, 2] rfl)
  · have hG := zf hG hc
    refine lv_iload_n hx hb d_W_set_4 rfl (lv_at hl 1 rfl) ?_
    refine lv_iconst (v := (3 : Int32)) hx hb d_W_set_5 (by decide) ?_
    refine lv_icmp_gt (tgt := 13) hx hb d_W_set_6 (by decide) (fun hc => ?_) (fun hc => ?_)
    · have hG := zt hG hc
      exact k_W_set_13 X hA zz htr hnh hAs hRc hRz sD v1 v2 _ hG adW adD adD_parts adD_bytes adD_lows adD_highs _ _ hP hD hS _ (lv_sub hl [0, 1, 2] rfl)
    · have hG := zf hG hc
      refine lv_iconst (v := (1 : Int32)) hx hb d_W_set_9 (by decide) ?_
      refine lv_goto (tgt := 14) hx hb d_W_set_10 (by decide) ?_
      exact k_W_set_14 X hA zz htr hnh hAs hRc hRz sD v1 v2 (1 : Int32) _ hG adW adD adD_parts adD_bytes adD_lows adD_highs _ _ hP hD hS _ (lv_sub hl [0, 1, 2] rfl)
set_option maxRecDepth 100000 in
set_option maxHeartbeats 4000000 in
theorem c_W_set (l : Launch) (dC : Nat → ClassId) (dI : Nat → Nat → Nat) (cB cI cL : ClassId) (sz : Nat) (adW adD adD_parts adD_bytes adD_lows adD_highs adT adR adG adF adH adP : Nat) (sD : zD) (v1 : Int32) (v2 : Int64) (a : (Unit ⊕ Nat) × zD) (hG : g_W_set sD v1 v2 = some a) (htr : l.stackTraces = false) : zMet l y_W_set (zw y_W_set b_W_set 6 none) ({ frames := 6, cells := 1, slots := 6, locals := 98 }) (va_Pc [.ref adW, .int v1, .long v2] (zpre dC dI cB cI cL sz (zwW adW adT adR adG adF adH adD adP ++ zwD adD adD_parts adD_bytes adD_lows adD_highs cB cI cL sD))) (q_W_set dC dI cB cI cL (va_A (zwW adW adT adR adG adF adH adD adP ++ zwD adD adD_parts adD_bytes adD_lows adD_highs cB cI cL sD) sz) adW adD adD_parts adD_bytes adD_lows adD_highs adT adR adG adF adH adP a) 1 6 (va_A (zwW adW adT adR adG adF adH adD adP ++ zwD adD adD_parts adD_bytes adD_lows adD_highs cB cI cL sD) sz) := by
  refine zMet.ofW (cc := b_W_set) (maxL := 6) (ret := none) (by decide) rfl ?_
  intro p e s m args below meth c s₁ B hml hv
  obtain ⟨rfl, hsz, hP, zz, hD0⟩ := hv
  subst hsz
  have X := zx_of (F := 6) (L := 98) B hml (Nat.le_refl _) (Nat.le_refl _)
  have hD := hD0.self (sz := s.heap.size)
  have hA : ∀ q : Nat, s.heap.size ≤ q → va_A (zwW adW adT adR adG adF adH adD adP ++ zwD adD adD_parts adD_bytes adD_lows adD_highs cB cI cL sD) s.heap.size q := fun q h => Or.inr h
  have hl := lv_entry ([.ref adW, .int v1, .long v2]) (n := 6) (Nat.le_of_ble_eq_true rfl)
  rw [lg_entry_eq]
  generalize (lg_sl ([.ref adW, .int v1, .long v2]) ++ List.replicate (6 - (lg_sl ([.ref adW, .int v1, .long v2])).length) Slot.unset).toArray = ls at hl ⊢
  have hnh := BodyLoose.noHandlers B (atoms_spec (ws := zw y_W_set b_W_set 6 none) B.pre _ List.mem_cons_self)
  have hAs := zstatics hP
  exact k_W_set_0 X hA zz htr hnh hAs (Nat.le_refl _) (Nat.le_refl _) sD v1 v2 a hG adW adD adD_parts adD_bytes adD_lows adD_highs _ _ hP hD va_S.rf ls hl
noncomputable def g_W_parameter_10 (sP : zP) : Option ((Int64 ⊕ Nat)) := some (.inr 3)
noncomputable def g_W_parameter (sP : zP) (v1 : Int32) : Option ((Int64 ⊕ Nat)) := if v1 < (0 : Int32) then (g_W_parameter_10 sP) else (if v1 ≤ (16 : Int32) then (zg (vp_in v1 17) (some (.inl ((zP_values sP) v1.toNatClampNeg)))) else (g_W_parameter_10 sP))
def q_W_parameter (dC : Nat → ClassId) (dI : Nat → Nat → Nat) (cB cI cL : ClassId) (A : Nat → Prop) (adW : Nat) (adP : Nat) (adP_values : Nat) (adT : Nat) (adR : Nat) (adG : Nat) (adF : Nat) (adH : Nat) (adD : Nat) (sP : zP) (a : (Int64 ⊕ Nat)) : Array Value → State → Outcome → State → Prop := zQx (α := Int64) (fun r => some (.long r)) (fun r (u : Unit) => (r) = a) (dC, dI) (fun u => (zwW adW adT adR adG adF adH adD adP ++ zwP adP adP_values cB cI cL sP)) A
set_option maxRecDepth 100000 in
set_option maxHeartbeats 4000000 in
theorem k_W_parameter_10 {p : Program} {l : Launch} {e : Env} {R : Room} {s : State} {m : MethodId} {args : Array Value} {below : List Frame} {meth : Method} {c : Code} {dC : Nat → ClassId} {dI : Nat → Nat → Nat} {cB cI cL : ClassId} {A : Nat → Prop} {adT adR adG adF adH adD : Nat} (X : zx p s m args meth c R R_W b_W_parameter (some .long) 2 6 98) (hA : ∀ q, s.heap.size ≤ q → A q) (zz : zk dC dI cB cI cL A s) (htr : l.stackTraces = false) (hnh : c.exceptionTable.isEmpty = true) (hAs : ∀ q, A q → ∀ cell, s.heap[q]? = some cell → cell.vm.isStatics = false) (hRc : 1 ≤ R.cells) (hRz : 6 ≤ R.slots)  (sP : zP) (a : (Int64 ⊕ Nat)) (hG : g_W_parameter_10 sP = some a) (adW adP adP_values : Nat) (H : Heap) (locs : List Loc) (hP : va_P (dC, dI) zcl (zwW adW adT adR adG adF adH adD adP ++ zwP adP adP_values cB cI cL sP) H) (hD : va_D A (zwW adW adT adR adG adF adH adD adP ++ zwP adP adP_values cB cI cL sP)) (hS : va_S A s.heap H locs) (ls : Array Slot) (hl : lv_has ls 2 []) : W p l e R s m args below meth c H locs 0 0 (zMQ below (q_W_parameter dC dI cB cI cL A adW adP adP_values adT adR adG adF adH adD sP a) args s 1 6 A) (F0 m 10 ls []) := by
  obtain ⟨hx, hb, hr, hml, hown, hts, hlocks, hRf, hRl⟩ := id X
  unfold g_W_parameter_10 at hG
  exact zthrowW htr X zz hnh hAs hA hS 3 (text := "id is not 0 .. 16") zin_W_164 zini_3 (by decide +kernel) zat_W_168 zfit_3 hl d_W_parameter_10 d_W_parameter_13 d_W_parameter_14 d_W_parameter_17 d_W_parameter_20 (Nat.le_trans (Nat.le_of_ble_eq_true rfl) hRf) (Nat.le_trans (Nat.le_of_ble_eq_true rfl) hRl) hRc hRz (by decide) (by decide) (fun t9 q9 hz9 ho9 ht9 => ⟨(), va_P.kept hP (zold hP ho9), hD, zFr hS hz9 ho9, Or.inr ⟨3, q9, rfl, Option.some.inj hG, ht9⟩⟩)
set_option maxRecDepth 100000 in
set_option maxHeartbeats 4000000 in
theorem k_W_parameter_0 {p : Program} {l : Launch} {e : Env} {R : Room} {s : State} {m : MethodId} {args : Array Value} {below : List Frame} {meth : Method} {c : Code} {dC : Nat → ClassId} {dI : Nat → Nat → Nat} {cB cI cL : ClassId} {A : Nat → Prop} {adT adR adG adF adH adD : Nat} (X : zx p s m args meth c R R_W b_W_parameter (some .long) 2 6 98) (hA : ∀ q, s.heap.size ≤ q → A q) (zz : zk dC dI cB cI cL A s) (htr : l.stackTraces = false) (hnh : c.exceptionTable.isEmpty = true) (hAs : ∀ q, A q → ∀ cell, s.heap[q]? = some cell → cell.vm.isStatics = false) (hRc : 1 ≤ R.cells) (hRz : 6 ≤ R.slots)  (sP : zP) (v1 : Int32) (a : (Int64 ⊕ Nat)) (hG : g_W_parameter sP v1 = some a) (adW adP adP_values : Nat) (H : Heap) (locs : List Loc) (hP : va_P (dC, dI) zcl (zwW adW adT adR adG adF adH adD adP ++ zwP adP adP_values cB cI cL sP) H) (hD : va_D A (zwW adW adT adR adG adF adH adD adP ++ zwP adP adP_values cB cI cL sP)) (hS : va_S A s.heap H locs) (ls : Array Slot) (hl : lv_has ls 2 [(0, .ref adW), (1, .int v1)]) : W p l e R s m args below meth c H locs 0 0 (zMQ below (q_W_parameter dC dI cB cI cL A adW adP adP_values adT adR adG adF adH adD sP a) args s 1 6 A) (F0 m 0 ls []) := by
  obtain ⟨hx, hb, hr, hml, hown, hts, hlocks, hRf, hRl⟩ := id X
  unfold g_W_parameter at hG
  refine lv_iload_n hx hb d_W_parameter_0 rfl (lv_at hl 1 rfl) ?_
  refine lv_if_lt (tgt := 10) hx hb d_W_parameter_1 (by decide) (fun hc => ?_) (fun hc => ?_)
  · have hG := zt hG hc
    exact k_W_parameter_10 X hA zz htr hnh hAs hRc hRz sP _ hG adW adP adP_values _ _ hP hD hS _ (lv_sub hl [] rfl)
  · have hG := zf hG hc
    refine lv_iload_n hx hb d_W_parameter_4 rfl (lv_at hl 1 rfl) ?_
    refine lv_bipush (v := (16 : Int32)) hx hb d_W_parameter_5 (by decide) ?_
    refine lv_icmp_le (tgt := 21) hx hb d_W_parameter_7 (by decide) (fun hc => ?_) (fun hc => ?_)
    · have hG := zt hG hc
      refine lv_aload_n hx hb d_W_parameter_21 rfl (lv_at hl 0 rfl) ?_
      refine va_get (D := (dC, dI)) (ci := 0) (v := .ref adP) (C := R_W) (T := F_W) (N := 7) hx hb hts zi_W hown zz.1 hP 0 rfl rfl 6 (by decide) (hts (.fieldLink R_W 56 "WireCodec" "told" "LWireCodec$Parameters;") zin_W_56) (fun _ h9 => h9) rfl d_W_parameter_22 ?_
      refine va_get (D := (dC, dI)) (ci := 7) (v := .ref adP_values) (C := R_P) (T := F_P) (N := 2) hx hb hts zi_P hown zz.1 hP 1 rfl rfl 0 (by decide) (hts (.fieldLink R_W 300 "WireCodec$Parameters" "values" "[J") zin_W_300) (fun _ h9 => h9) rfl d_W_parameter_25 ?_
      refine lv_iload_n hx hb d_W_parameter_28 rfl (lv_at hl 1 rfl) ?_
      obtain ⟨hin, hG⟩ := zgd hG
      refine va_lald hx hb zz.1 hP 2 2 rfl rfl hin d_W_parameter_29 ?_
      refine W.widen (k := 1) (n := 6) (by decide) (by decide) ?_
      exact zxretl (u := ()) (v := (zP_values sP) v1.toNatClampNeg) X hlocks (Option.some.inj hG) hP hD hS d_W_parameter_30
    · have hG := zf hG hc
      exact k_W_parameter_10 X hA zz htr hnh hAs hRc hRz sP _ hG adW adP adP_values _ _ hP hD hS _ (lv_sub hl [] rfl)
set_option maxRecDepth 100000 in
set_option maxHeartbeats 4000000 in
theorem c_W_parameter (l : Launch) (dC : Nat → ClassId) (dI : Nat → Nat → Nat) (cB cI cL : ClassId) (sz : Nat) (adW adP adP_values adT adR adG adF adH adD : Nat) (sP : zP) (v1 : Int32) (a : (Int64 ⊕ Nat)) (hG : g_W_parameter sP v1 = some a) (htr : l.stackTraces = false) : zMet l y_W_parameter (zw y_W_parameter b_W_parameter 2 (some .long)) ({ frames := 6, cells := 1, slots := 6, locals := 98 }) (va_Pc [.ref adW, .int v1] (zpre dC dI cB cI cL sz (zwW adW adT adR adG adF adH adD adP ++ zwP adP adP_values cB cI cL sP))) (q_W_parameter dC dI cB cI cL (va_A (zwW adW adT adR adG adF adH adD adP ++ zwP adP adP_values cB cI cL sP) sz) adW adP adP_values adT adR adG adF adH adD sP a) 1 6 (va_A (zwW adW adT adR adG adF adH adD adP ++ zwP adP adP_values cB cI cL sP) sz) := by
  refine zMet.ofW (cc := b_W_parameter) (maxL := 2) (ret := (some .long)) (by decide) rfl ?_
  intro p e s m args below meth c s₁ B hml hv
  obtain ⟨rfl, hsz, hP, zz, hD0⟩ := hv
  subst hsz
  have X := zx_of (F := 6) (L := 98) B hml (Nat.le_refl _) (Nat.le_refl _)
  have hD := hD0.self (sz := s.heap.size)
  have hA : ∀ q : Nat, s.heap.size ≤ q → va_A (zwW adW adT adR adG adF adH adD adP ++ zwP adP adP_values cB cI cL sP) s.heap.size q := fun q h => Or.inr h
  have hl := lv_entry ([.ref adW, .int v1]) (n := 2) (Nat.le_of_ble_eq_true rfl)
  rw [lg_entry_eq]
  generalize (lg_sl ([.ref adW, .int v1]) ++ List.replicate (2 - (lg_sl ([.ref adW, .int v1])).length) Slot.unset).toArray = ls at hl ⊢
  have hnh := BodyLoose.noHandlers B (atoms_spec (ws := zw y_W_parameter b_W_parameter 2 (some .long)) B.pre _ List.mem_cons_self)
  have hAs := zstatics hP
  exact k_W_parameter_0 X hA zz htr hnh hAs (Nat.le_refl _) (Nat.le_refl _) sP v1 a hG adW adP adP_values _ _ hP hD va_S.rf ls hl
noncomputable def g_W_requireByte_15 (sT : zT) : Option ((Unit ⊕ Nat)) := some (.inr 3)
noncomputable def g_W_requireByte (sT : zT) (v1 : Int32) : Option ((Unit ⊕ Nat)) := if v1 < (0 : Int32) then (g_W_requireByte_15 sT) else (if v1 < (zT_length sT) then (some (.inl ())) else (g_W_requireByte_15 sT))
def q_W_requireByte (dC : Nat → ClassId) (dI : Nat → Nat → Nat) (cB cI cL : ClassId) (A : Nat → Prop) (adW : Nat) (adT : Nat) (adT_bytes : Nat) (adR : Nat) (adG : Nat) (adF : Nat) (adH : Nat) (adD : Nat) (adP : Nat) (sT : zT) (a : (Unit ⊕ Nat)) : Array Value → State → Outcome → State → Prop := zQx (α := Unit) (fun _ => none) (fun r (u : Unit) => (r) = a) (dC, dI) (fun u => (zwW adW adT adR adG adF adH adD adP ++ zwT adT adT_bytes cB cI cL sT)) A
set_option maxRecDepth 100000 in
set_option maxHeartbeats 4000000 in
theorem k_W_requireByte_15 {p : Program} {l : Launch} {e : Env} {R : Room} {s : State} {m : MethodId} {args : Array Value} {below : List Frame} {meth : Method} {c : Code} {dC : Nat → ClassId} {dI : Nat → Nat → Nat} {cB cI cL : ClassId} {A : Nat → Prop} {adR adG adF adH adD adP : Nat} (X : zx p s m args meth c R R_W b_W_requireByte none 2 6 98) (hA : ∀ q, s.heap.size ≤ q → A q) (zz : zk dC dI cB cI cL A s) (htr : l.stackTraces = false) (hnh : c.exceptionTable.isEmpty = true) (hAs : ∀ q, A q → ∀ cell, s.heap[q]? = some cell → cell.vm.isStatics = false) (hRc : 1 ≤ R.cells) (hRz : 6 ≤ R.slots)  (sT : zT) (a : (Unit ⊕ Nat)) (hG : g_W_requireByte_15 sT = some a) (adW adT adT_bytes : Nat) (H : Heap) (locs : List Loc) (hP : va_P (dC, dI) zcl (zwW adW adT adR adG adF adH adD adP ++ zwT adT adT_bytes cB cI cL sT) H) (hD : va_D A (zwW adW adT adR adG adF adH adD adP ++ zwT adT adT_bytes cB cI cL sT)) (hS : va_S A s.heap H locs) (ls : Array Slot) (hl : lv_has ls 2 []) : W p l e R s m args below meth c H locs 0 0 (zMQ below (q_W_requireByte dC dI cB cI cL A adW adT adT_bytes adR adG adF adH adD adP sT a) args s 1 6 A) (F0 m 15 ls []) := by
  obtain ⟨hx, hb, hr, hml, hown, hts, hlocks, hRf, hRl⟩ := id X
  unfold g_W_requireByte_15 at hG
  exact zthrowW htr X zz hnh hAs hA hS 3 (text := "the tape has no such byte") zin_W_164 zini_3 (by decide +kernel) zat_W_168 zfit_3 hl d_W_requireByte_15 d_W_requireByte_18 d_W_requireByte_19 d_W_requireByte_22 d_W_requireByte_25 (Nat.le_trans (Nat.le_of_ble_eq_true rfl) hRf) (Nat.le_trans (Nat.le_of_ble_eq_true rfl) hRl) hRc hRz (by decide) (by decide) (fun t9 q9 hz9 ho9 ht9 => ⟨(), va_P.kept hP (zold hP ho9), hD, zFr hS hz9 ho9, Or.inr ⟨3, q9, rfl, Option.some.inj hG, ht9⟩⟩)
set_option maxRecDepth 100000 in
set_option maxHeartbeats 4000000 in
theorem k_W_requireByte_0 {p : Program} {l : Launch} {e : Env} {R : Room} {s : State} {m : MethodId} {args : Array Value} {below : List Frame} {meth : Method} {c : Code} {dC : Nat → ClassId} {dI : Nat → Nat → Nat} {cB cI cL : ClassId} {A : Nat → Prop} {adR adG adF adH adD adP : Nat} (X : zx p s m args meth c R R_W b_W_requireByte none 2 6 98) (hA : ∀ q, s.heap.size ≤ q → A q) (zz : zk dC dI cB cI cL A s) (htr : l.stackTraces = false) (hnh : c.exceptionTable.isEmpty = true) (hAs : ∀ q, A q → ∀ cell, s.heap[q]? = some cell → cell.vm.isStatics = false) (hRc : 1 ≤ R.cells) (hRz : 6 ≤ R.slots)  (sT : zT) (v1 : Int32) (a : (Unit ⊕ Nat)) (hG : g_W_requireByte sT v1 = some a) (adW adT adT_bytes : Nat) (H : Heap) (locs : List Loc) (hP : va_P (dC, dI) zcl (zwW adW adT adR adG adF adH adD adP ++ zwT adT adT_bytes cB cI cL sT) H) (hD : va_D A (zwW adW adT adR adG adF adH adD adP ++ zwT adT adT_bytes cB cI cL sT)) (hS : va_S A s.heap H locs) (ls : Array Slot) (hl : lv_has ls 2 [(0, .ref adW), (1, .int v1)]) : W p l e R s m args below meth c H locs 0 0 (zMQ below (q_W_requireByte dC dI cB cI cL A adW adT adT_bytes adR adG adF adH adD adP sT a) args s 1 6 A) (F0 m 0 ls []) := by
  obtain ⟨hx, hb, hr, hml, hown, hts, hlocks, hRf, hRl⟩ := id X
  unfold g_W_requireByte at hG
  refine lv_iload_n hx hb d_W_requireByte_0 rfl (lv_at hl 1 rfl) ?_
  refine lv_if_lt (tgt := 15) hx hb d_W_requireByte_1 (by decide) (fun hc => ?_) (fun hc => ?_)
  · have hG := zt hG hc
    exact k_W_requireByte_15 X hA zz htr hnh hAs hRc hRz sT _ hG adW adT adT_bytes _ _ hP hD hS _ (lv_sub hl [] rfl)
  · have hG := zf hG hc
    refine lv_iload_n hx hb d_W_requireByte_4 rfl (lv_at hl 1 rfl) ?_
    refine lv_aload_n hx hb d_W_requireByte_5 rfl (lv_at hl 0 rfl) ?_
    refine va_get (D := (dC, dI)) (ci := 0) (v := .ref adT) (C := R_W) (T := F_W) (N := 7) hx hb hts zi_W hown zz.1 hP 0 rfl rfl 0 (by decide) (hts (.fieldLink R_W 12 "WireCodec" "tape" "LWireCodec$Tape;") zin_W_12) (fun _ h9 => h9) rfl d_W_requireByte_6 ?_
    refine va_get (D := (dC, dI)) (ci := 1) (v := .int (zT_length sT)) (C := R_T) (T := F_T) (N := 3) hx hb hts zi_T hown zz.1 hP 1 rfl rfl 2 (by decide) (hts (.fieldLink R_W 95 "WireCodec$Tape" "length" "I") zin_W_95) (fun _ h9 => h9) rfl d_W_requireByte_9 ?_
    refine lv_icmp_lt (tgt := 26) hx hb d_W_requireByte_12 (by decide) (fun hc => ?_) (fun hc => ?_)
    · have hG := zt hG hc
      refine W.widen (k := 1) (n := 6) (by decide) (by decide) ?_
      exact zxretv (u := ()) X hlocks (Option.some.inj hG) hP hD hS d_W_requireByte_26
    · have hG := zf hG hc
      exact k_W_requireByte_15 X hA zz htr hnh hAs hRc hRz sT _ hG adW adT adT_bytes _ _ hP hD hS _ (lv_sub hl [] rfl)
set_option maxRecDepth 100000 in
set_option maxHeartbeats 4000000 in
theorem c_W_requireByte (l : Launch) (dC : Nat → ClassId) (dI : Nat → Nat → Nat) (cB cI cL : ClassId) (sz : Nat) (adW adT adT_bytes adR adG adF adH adD adP : Nat) (sT : zT) (v1 : Int32) (a : (Unit ⊕ Nat)) (hG : g_W_requireByte sT v1 = some a) (htr : l.stackTraces = false) : zMet l y_W_requireByte (zw y_W_requireByte b_W_requireByte 2 none) ({ frames := 6, cells := 1, slots := 6, locals := 98 }) (va_Pc [.ref adW, .int v1] (zpre dC dI cB cI cL sz (zwW adW adT adR adG adF adH adD adP ++ zwT adT adT_bytes cB cI cL sT))) (q_W_requireByte dC dI cB cI cL (va_A (zwW adW adT adR adG adF adH adD adP ++ zwT adT adT_bytes cB cI cL sT) sz) adW adT adT_bytes adR adG adF adH adD adP sT a) 1 6 (va_A (zwW adW adT adR adG adF adH adD adP ++ zwT adT adT_bytes cB cI cL sT) sz) := by
  refine zMet.ofW (cc := b_W_requireByte) (maxL := 2) (ret := none) (by decide) rfl ?_
  intro p e s m args below meth c s₁ B hml hv
  obtain ⟨rfl, hsz, hP, zz, hD0⟩ := hv
  subst hsz
  have X := zx_of (F := 6) (L := 98) B hml (Nat.le_refl _) (Nat.le_refl _)
  have hD := hD0.self (sz := s.heap.size)
  have hA : ∀ q : Nat, s.heap.size ≤ q → va_A (zwW adW adT adR adG adF adH adD adP ++ zwT adT adT_bytes cB cI cL sT) s.heap.size q := fun q h => Or.inr h
  have hl := lv_entry ([.ref adW, .int v1]) (n := 2) (Nat.le_of_ble_eq_true rfl)
  rw [lg_entry_eq]
  generalize (lg_sl ([.ref adW, .int v1]) ++ List.replicate (2 - (lg_sl ([.ref adW, .int v1])).length) Slot.unset).toArray = ls at hl ⊢
  have hnh := BodyLoose.noHandlers B (atoms_spec (ws := zw y_W_requireByte b_W_requireByte 2 none) B.pre _ List.mem_cons_self)
  have hAs := zstatics hP
  exact k_W_requireByte_0 X hA zz htr hnh hAs (Nat.le_refl _) (Nat.le_refl _) sT v1 a hG adW adT adT_bytes _ _ hP hD va_S.rf ls hl
noncomputable def g_W_requirePlace_15 (sT : zT) : Option ((Unit ⊕ Nat)) := some (.inr 1)
noncomputable def g_W_requirePlace (sT : zT) (v1 : Int32) : Option ((Unit ⊕ Nat)) := if v1 < (0 : Int32) then (g_W_requirePlace_15 sT) else (if v1 ≤ (zT_length sT) then (some (.inl ())) else (g_W_requirePlace_15 sT))
def q_W_requirePlace (dC : Nat → ClassId) (dI : Nat → Nat → Nat) (cB cI cL : ClassId) (A : Nat → Prop) (adW : Nat) (adT : Nat) (adT_bytes : Nat) (adR : Nat) (adG : Nat) (adF : Nat) (adH : Nat) (adD : Nat) (adP : Nat) (sT : zT) (a : (Unit ⊕ Nat)) : Array Value → State → Outcome → State → Prop := zQx (α := Unit) (fun _ => none) (fun r (u : Unit) => (r) = a) (dC, dI) (fun u => (zwW adW adT adR adG adF adH adD adP ++ zwT adT adT_bytes cB cI cL sT)) A
set_option maxRecDepth 100000 in
set_option maxHeartbeats 4000000 in
theorem k_W_requirePlace_15 {p : Program} {l : Launch} {e : Env} {R : Room} {s : State} {m : MethodId} {args : Array Value} {below : List Frame} {meth : Method} {c : Code} {dC : Nat → ClassId} {dI : Nat → Nat → Nat} {cB cI cL : ClassId} {A : Nat → Prop} {adR adG adF adH adD adP : Nat} (X : zx p s m args meth c R R_W b_W_requirePlace none 2 6 98) (hA : ∀ q, s.heap.size ≤ q → A q) (zz : zk dC dI cB cI cL A s) (htr : l.stackTraces = false) (hnh : c.exceptionTable.isEmpty = true) (hAs : ∀ q, A q → ∀ cell, s.heap[q]? = some cell → cell.vm.isStatics = false) (hRc : 1 ≤ R.cells) (hRz : 6 ≤ R.slots)  (sT : zT) (a : (Unit ⊕ Nat)) (hG : g_W_requirePlace_15 sT = some a) (adW adT adT_bytes : Nat) (H : Heap) (locs : List Loc) (hP : va_P (dC, dI) zcl (zwW adW adT adR adG adF adH adD adP ++ zwT adT adT_bytes cB cI cL sT) H) (hD : va_D A (zwW adW adT adR adG adF adH adD adP ++ zwT adT adT_bytes cB cI cL sT)) (hS : va_S A s.heap H locs) (ls : Array Slot) (hl : lv_has ls 2 []) : W p l e R s m args below meth c H locs 0 0 (zMQ below (q_W_requirePlace dC dI cB cI cL A adW adT adT_bytes adR adG adF adH adD adP sT a) args s 1 6 A) (F0 m 15 ls []) := by
  obtain ⟨hx, hb, hr, hml, hown, hts, hlocks, hRf, hRl⟩ := id X
  unfold g_W_requirePlace_15 at hG
  exact zthrowW htr X zz hnh hAs hA hS 1 (text := "from is not 0 .. size") zin_W_60 zini_1 (by decide +kernel) zat_W_64 zfit_1 hl d_W_requirePlace_15 d_W_requirePlace_18 d_W_requirePlace_19 d_W_requirePlace_22 d_W_requirePlace_25 (Nat.le_trans (Nat.le_of_ble_eq_true rfl) hRf) (Nat.le_trans (Nat.le_of_ble_eq_true rfl) hRl) hRc hRz (by decide) (by decide) (fun t9 q9 hz9 ho9 ht9 => ⟨(), va_P.kept hP (zold hP ho9), hD, zFr hS hz9 ho9, Or.inr ⟨1, q9, rfl, Option.some.inj hG, ht9⟩⟩)
set_option maxRecDepth 100000 in
set_option maxHeartbeats 4000000 in
theorem k_W_requirePlace_0 {p : Program} {l : Launch} {e : Env} {R : Room} {s : State} {m : MethodId} {args : Array Value} {below : List Frame} {meth : Method} {c : Code} {dC : Nat → ClassId} {dI : Nat → Nat → Nat} {cB cI cL : ClassId} {A : Nat → Prop} {adR adG adF adH adD adP : Nat} (X : zx p s m args meth c R R_W b_W_requirePlace none 2 6 98) (hA : ∀ q, s.heap.size ≤ q → A q) (zz : zk dC dI cB cI cL A s) (htr : l.stackTraces = false) (hnh : c.exceptionTable.isEmpty = true) (hAs : ∀ q, A q → ∀ cell, s.heap[q]? = some cell → cell.vm.isStatics = false) (hRc : 1 ≤ R.cells) (hRz : 6 ≤ R.slots)  (sT : zT) (v1 : Int32) (a : (Unit ⊕ Nat)) (hG : g_W_requirePlace sT v1 = some a) (adW adT adT_bytes : Nat) (H : Heap) (locs : List Loc) (hP : va_P (dC, dI) zcl (zwW adW adT adR adG adF adH adD adP ++ zwT adT adT_bytes cB cI cL sT) H) (hD : va_D A (zwW adW adT adR adG adF adH adD adP ++ zwT adT adT_bytes cB cI cL sT)) (hS : va_S A s.heap H locs) (ls : Array Slot) (hl : lv_has ls 2 [(0, .ref adW), (1, .int v1)]) : W p l e R s m args below meth c H locs 0 0 (zMQ below (q_W_requirePlace dC dI cB cI cL A adW adT adT_bytes adR adG adF adH adD adP sT a) args s 1 6 A) (F0 m 0 ls []) := by
  obtain ⟨hx, hb, hr, hml, hown, hts, hlocks, hRf, hRl⟩ := id X
  unfold g_W_requirePlace at hG
  refine lv_iload_n hx hb d_W_requirePlace_0 rfl (lv_at hl 1 rfl) ?_
  refine lv_if_lt (tgt := 15) hx hb d_W_requirePlace_1 (by decide) (fun hc => ?_) (fun hc => ?_)
  · have hG := zt hG hc
    exact k_W_requirePlace_15 X hA zz htr hnh hAs hRc hRz sT _ hG adW adT adT_bytes _ _ hP hD hS _ (lv_sub hl [] rfl)
  · have hG := zf hG hc
    refine lv_iload_n hx hb d_W_requirePlace_4 rfl (lv_at hl 1 rfl) ?_
    refine lv_aload_n hx hb d_W_requirePlace_5 rfl (lv_at hl 0 rfl) ?_
    refine va_get (D := (dC, dI)) (ci := 0) (v := .ref adT) (C := R_W) (T := F_W) (N := 7) hx hb hts zi_W hown zz.1 hP 0 rfl rfl 0 (by decide) (hts (.fieldLink R_W 12 "WireCodec" "tape" "LWireCodec$Tape;") zin_W_12) (fun _ h9 => h9) rfl d_W_requirePlace_6 ?_
    refine va_get (D := (dC, dI)) (ci := 1) (v := .int (zT_length sT)) (C := R_T) (T := F_T) (N := 3) hx hb hts zi_T hown zz.1 hP 1 rfl rfl 2 (by decide) (hts (.fieldLink R_W 95 "WireCodec$Tape" "length" "I") zin_W_95) (fun _ h9 => h9) rfl d_W_requirePlace_9 ?_
    refine lv_icmp_le (tgt := 26) hx hb d_W_requirePlace_12 (by decide) (fun hc => ?_) (fun hc => ?_)
    · have hG := zt hG hc
      refine W.widen (k := 1) (n := 6) (by decide) (by decide) ?_
      exact zxretv (u := ()) X hlocks (Option.some.inj hG) hP hD hS d_W_requirePlace_26
    · have hG := zf hG hc
      exact k_W_requirePlace_15 X hA zz htr hnh hAs hRc hRz sT _ hG adW adT adT_bytes _ _ hP hD hS _ (lv_sub hl [] rfl)
set_option maxRecDepth 100000 in
set_option maxHeartbeats 4000000 in
theorem c_W_requirePlace (l : Launch) (dC : Nat → ClassId) (dI : Nat → Nat → Nat) (cB cI cL : ClassId) (sz : Nat) (adW adT adT_bytes adR adG adF adH adD adP : Nat) (sT : zT) (v1 : Int32) (a : (Unit ⊕ Nat)) (hG : g_W_requirePlace sT v1 = some a) (htr : l.stackTraces = false) : zMet l y_W_requirePlace (zw y_W_requirePlace b_W_requirePlace 2 none) ({ frames := 6, cells := 1, slots := 6, locals := 98 }) (va_Pc [.ref adW, .int v1] (zpre dC dI cB cI cL sz (zwW adW adT adR adG adF adH adD adP ++ zwT adT adT_bytes cB cI cL sT))) (q_W_requirePlace dC dI cB cI cL (va_A (zwW adW adT adR adG adF adH adD adP ++ zwT adT adT_bytes cB cI cL sT) sz) adW adT adT_bytes adR adG adF adH adD adP sT a) 1 6 (va_A (zwW adW adT adR adG adF adH adD adP ++ zwT adT adT_bytes cB cI cL sT) sz) := by
  refine zMet.ofW (cc := b_W_requirePlace) (maxL := 2) (ret := none) (by decide) rfl ?_
  intro p e s m args below meth c s₁ B hml hv
  obtain ⟨rfl, hsz, hP, zz, hD0⟩ := hv
  subst hsz
  have X := zx_of (F := 6) (L := 98) B hml (Nat.le_refl _) (Nat.le_refl _)
  have hD := hD0.self (sz := s.heap.size)
  have hA : ∀ q : Nat, s.heap.size ≤ q → va_A (zwW adW adT adR adG adF adH adD adP ++ zwT adT adT_bytes cB cI cL sT) s.heap.size q := fun q h => Or.inr h
  have hl := lv_entry ([.ref adW, .int v1]) (n := 2) (Nat.le_of_ble_eq_true rfl)
  rw [lg_entry_eq]
  generalize (lg_sl ([.ref adW, .int v1]) ++ List.replicate (2 - (lg_sl ([.ref adW, .int v1])).length) Slot.unset).toArray = ls at hl ⊢
  have hnh := BodyLoose.noHandlers B (atoms_spec (ws := zw y_W_requirePlace b_W_requirePlace 2 none) B.pre _ List.mem_cons_self)
  have hAs := zstatics hP
  exact k_W_requirePlace_0 X hA zz htr hnh hAs (Nat.le_refl _) (Nat.le_refl _) sT v1 a hG adW adT adT_bytes _ _ hP hD va_S.rf ls hl
noncomputable def g_W_requireNames_10  : Option ((Unit ⊕ Nat)) := some (.inr 1)
noncomputable def g_W_requireNames (v0 : Int32) : Option ((Unit ⊕ Nat)) := if v0 < (0 : Int32) then g_W_requireNames_10 else (if v0 ≤ (20 : Int32) then (some (.inl ())) else g_W_requireNames_10)
def q_W_requireNames (dC : Nat → ClassId) (dI : Nat → Nat → Nat) (cB cI cL : ClassId) (A : Nat → Prop) (a : (Unit ⊕ Nat)) : Array Value → State → Outcome → State → Prop := zQx (α := Unit) (fun _ => none) (fun r (u : Unit) => (r) = a) (dC, dI) (fun u => ([] : va_W)) A
set_option maxRecDepth 100000 in
set_option maxHeartbeats 4000000 in
theorem k_W_requireNames_10 {p : Program} {l : Launch} {e : Env} {R : Room} {s : State} {m : MethodId} {args : Array Value} {below : List Frame} {meth : Method} {c : Code} {dC : Nat → ClassId} {dI : Nat → Nat → Nat} {cB cI cL : ClassId} {A : Nat → Prop} (X : zx p s m args meth c R R_W b_W_requireNames none 1 6 98) (hA : ∀ q, s.heap.size ≤ q → A q) (zz : zk dC dI cB cI cL A s) (htr : l.stackTraces = false) (hnh : c.exceptionTable.isEmpty = true) (hAs : ∀ q, A q → ∀ cell, s.heap[q]? = some cell → cell.vm.isStatics = false) (hRc : 1 ≤ R.cells) (hRz : 6 ≤ R.slots)  (a : (Unit ⊕ Nat)) (hG : g_W_requireNames_10  = some a) (H : Heap) (locs : List Loc) (hP : va_P (dC, dI) zcl ([] : va_W) H) (hD : va_D A ([] : va_W)) (hS : va_S A s.heap H locs) (ls : Array Slot) (hl : lv_has ls 1 []) : W p l e R s m args below meth c H locs 0 0 (zMQ below (q_W_requireNames dC dI cB cI cL A a) args s 1 6 A) (F0 m 10 ls []) := by
  obtain ⟨hx, hb, hr, hml, hown, hts, hlocks, hRf, hRl⟩ := id X
  unfold g_W_requireNames_10 at hG
  exact zthrowW htr X zz hnh hAs hA hS 1 (text := "names is not 0 .. 20") zin_W_60 zini_1 (by decide +kernel) zat_W_64 zfit_1 hl d_W_requireNames_10 d_W_requireNames_13 d_W_requireNames_14 d_W_requireNames_17 d_W_requireNames_20 (Nat.le_trans (Nat.le_of_ble_eq_true rfl) hRf) (Nat.le_trans (Nat.le_of_ble_eq_true rfl) hRl) hRc hRz (by decide) (by decide) (fun t9 q9 hz9 ho9 ht9 => ⟨(), va_P.kept hP (zold hP ho9), hD, zFr hS hz9 ho9, Or.inr ⟨1, q9, rfl, Option.some.inj hG, ht9⟩⟩)
set_option maxRecDepth 100000 in
set_option maxHeartbeats 4000000 in
theorem k_W_requireNames_0 {p : Program} {l : Launch} {e : Env} {R : Room} {s : State} {m : MethodId} {args : Array Value} {below : List Frame} {meth : Method} {c : Code} {dC : Nat → ClassId} {dI : Nat → Nat → Nat} {cB cI cL : ClassId} {A : Nat → Prop} (X : zx p s m args meth c R R_W b_W_requireNames none 1 6 98) (hA : ∀ q, s.heap.size ≤ q → A q) (zz : zk dC dI cB cI cL A s) (htr : l.stackTraces = false) (hnh : c.exceptionTable.isEmpty = true) (hAs : ∀ q, A q → ∀ cell, s.heap[q]? = some cell → cell.vm.isStatics = false) (hRc : 1 ≤ R.cells) (hRz : 6 ≤ R.slots)  (v0 : Int32) (a : (Unit ⊕ Nat)) (hG : g_W_requireNames v0 = some a) (H : Heap) (locs : List Loc) (hP : va_P (dC, dI) zcl ([] : va_W) H) (hD : va_D A ([] : va_W)) (hS : va_S A s.heap H locs) (ls : Array Slot) (hl : lv_has ls 1 [(0, .int v0)]) : W p l e R s m args below meth c H locs 0 0 (zMQ below (q_W_requireNames dC dI cB cI cL A a) args s 1 6 A) (F0 m 0 ls []) := by
  obtain ⟨hx, hb, hr, hml, hown, hts, hlocks, hRf, hRl⟩ := id X
  unfold g_W_requireNames at hG
  refine lv_iload_n hx hb d_W_requireNames_0 rfl (lv_at hl 0 rfl) ?_
  refine lv_if_lt (tgt := 10) hx hb d_W_requireNames_1 (by decide) (fun hc => ?_) (fun hc => ?_)
  · have hG := zt hG hc
    exact k_W_requireNames_10 X hA zz htr hnh hAs hRc hRz _ hG _ _ hP hD hS _ (lv_sub hl [] rfl)
  · have hG := zf hG hc
    refine lv_iload_n hx hb d_W_requireNames_4 rfl (lv_at hl 0 rfl) ?_
    refine lv_bipush (v := (20 : Int32)) hx hb d_W_requireNames_5 (by decide) ?_
    refine lv_icmp_le (tgt := 21) hx hb d_W_requireNames_7 (by decide) (fun hc => ?_) (fun hc => ?_)
    · have hG := zt hG hc
      refine W.widen (k := 1) (n := 6) (by decide) (by decide) ?_
      exact zxretv (u := ()) X hlocks (Option.some.inj hG) hP hD hS d_W_requireNames_21
    · have hG := zf hG hc
      exact k_W_requireNames_10 X hA zz htr hnh hAs hRc hRz _ hG _ _ hP hD hS _ (lv_sub hl [] rfl)
set_option maxRecDepth 100000 in
set_option maxHeartbeats 4000000 in
theorem c_W_requireNames (l : Launch) (dC : Nat → ClassId) (dI : Nat → Nat → Nat) (cB cI cL : ClassId) (sz : Nat) (v0 : Int32) (a : (Unit ⊕ Nat)) (hG : g_W_requireNames v0 = some a) (htr : l.stackTraces = false) : zMet l y_W_requireNames (zw y_W_requireNames b_W_requireNames 1 none) ({ frames := 6, cells := 1, slots := 6, locals := 98 }) (va_Pc [.int v0] (zpre dC dI cB cI cL sz ([] : va_W))) (q_W_requireNames dC dI cB cI cL (va_A ([] : va_W) sz) a) 1 6 (va_A ([] : va_W) sz) := by
  refine zMet.ofW (cc := b_W_requireNames) (maxL := 1) (ret := none) (by decide) rfl ?_
  intro p e s m args below meth c s₁ B hml hv
  obtain ⟨rfl, hsz, hP, zz, hD0⟩ := hv
  subst hsz
  have X := zx_of (F := 6) (L := 98) B hml (Nat.le_refl _) (Nat.le_refl _)
  have hD := hD0.self (sz := s.heap.size)
  have hA : ∀ q : Nat, s.heap.size ≤ q → va_A ([] : va_W) s.heap.size q := fun q h => Or.inr h
  have hl := lv_entry ([.int v0]) (n := 1) (Nat.le_of_ble_eq_true rfl)
  rw [lg_entry_eq]
  generalize (lg_sl ([.int v0]) ++ List.replicate (1 - (lg_sl ([.int v0])).length) Slot.unset).toArray = ls at hl ⊢
  have hnh := BodyLoose.noHandlers B (atoms_spec (ws := zw y_W_requireNames b_W_requireNames 1 none) B.pre _ List.mem_cons_self)
  have hAs := zstatics hP
  exact k_W_requireNames_0 X hA zz htr hnh hAs (Nat.le_refl _) (Nat.le_refl _) v0 a hG _ _ hP hD va_S.rf ls hl
noncomputable def g_W_isNumber_19 (s0 : Int32) : Option (Int32) := zg (narrow .boolean (.int s0) = .int s0) (some (s0))
noncomputable def g_W_isNumber_18  : Option (Int32) := g_W_isNumber_19 (0 : Int32)
noncomputable def g_W_isNumber (v0 : Int64) : Option (Int32) := if (lg_cmp v0 (0 : Int64)) < (0 : Int32) then g_W_isNumber_18 else (if (0 : Int32) < (lg_cmp v0 (4611686018427387903 : Int64)) then g_W_isNumber_18 else (g_W_isNumber_19 (1 : Int32)))
def q_W_isNumber (dC : Nat → ClassId) (dI : Nat → Nat → Nat) (cB cI cL : ClassId) (A : Nat → Prop) (a : Int32) : Array Value → State → Outcome → State → Prop := va_Qi (fun (r : Int32) (u : Unit) => (r) = a) (fun u U => va_P (dC, dI) zcl ([] : va_W) U.heap ∧ va_D A ([] : va_W)) A
set_option maxRecDepth 100000 in
set_option maxHeartbeats 4000000 in
theorem k_W_isNumber_19 {p : Program} {l : Launch} {e : Env} {R : Room} {s : State} {m : MethodId} {args : Array Value} {below : List Frame} {meth : Method} {c : Code} {dC : Nat → ClassId} {dI : Nat → Nat → Nat} {cB cI cL : ClassId} {A : Nat → Prop} (X : zx p s m args meth c R R_W b_W_isNumber (some .boolean) 2 0 0) (hA : ∀ q, s.heap.size ≤ q → A q) (zz : zk dC dI cB cI cL A s)  (s0 : Int32) (a : Int32) (hG : g_W_isNumber_19 s0 = some a) (H : Heap) (locs : List Loc) (hP : va_P (dC, dI) zcl ([] : va_W) H) (hD : va_D A ([] : va_W)) (hS : va_S A s.heap H locs) (ls : Array Slot) (hl : lv_has ls 2 []) : W p l e R s m args below meth c H locs 0 0 (MQ below (q_W_isNumber dC dI cB cI cL A a) args s 0 0 A) (F0 m 19 ls [.int s0]) := by
  obtain ⟨hx, hb, hr, hml, hown, hts, hlocks, hRf, hRl⟩ := id X
  unfold g_W_isNumber_19 at hG
  obtain ⟨hnb, hG⟩ := zgd hG
  exact W.zret (v := s0) hx hb hr hnb (fun t9 ht9 hW9 => ⟨⟨s0, (), rfl, Option.some.inj hG, by rw [ht9]; exact hP, hD⟩, hS.F ht9⟩) hS.2.2 d_W_isNumber_19
set_option maxRecDepth 100000 in
set_option maxHeartbeats 4000000 in
theorem k_W_isNumber_18 {p : Program} {l : Launch} {e : Env} {R : Room} {s : State} {m : MethodId} {args : Array Value} {below : List Frame} {meth : Method} {c : Code} {dC : Nat → ClassId} {dI : Nat → Nat → Nat} {cB cI cL : ClassId} {A : Nat → Prop} (X : zx p s m args meth c R R_W b_W_isNumber (some .boolean) 2 0 0) (hA : ∀ q, s.heap.size ≤ q → A q) (zz : zk dC dI cB cI cL A s)  (a : Int32) (hG : g_W_isNumber_18  = some a) (H : Heap) (locs : List Loc) (hP : va_P (dC, dI) zcl ([] : va_W) H) (hD : va_D A ([] : va_W)) (hS : va_S A s.heap H locs) (ls : Array Slot) (hl : lv_has ls 2 []) : W p l e R s m args below meth c H locs 0 0 (MQ below (q_W_isNumber dC dI cB cI cL A a) args s 0 0 A) (F0 m 18 ls []) := by
  obtain ⟨hx, hb, hr, hml, hown, hts, hlocks, hRf, hRl⟩ := id X
  unfold g_W_isNumber_18 at hG
  refine lv_iconst (v := (0 : Int32)) hx hb d_W_isNumber_18 (by decide) ?_
  exact k_W_isNumber_19 X hA zz (0 : Int32) _ hG _ _ hP hD hS _ (lv_sub hl [] rfl)
set_option maxRecDepth 100000 in
set_option maxHeartbeats 4000000 in
theorem k_W_isNumber_0 {p : Program} {l : Launch} {e : Env} {R : Room} {s : State} {m : MethodId} {args : Array Value} {below : List Frame} {meth : Method} {c : Code} {dC : Nat → ClassId} {dI : Nat → Nat → Nat} {cB cI cL : ClassId} {A : Nat → Prop} (X : zx p s m args meth c R R_W b_W_isNumber (some .boolean) 2 0 0) (hA : ∀ q, s.heap.size ≤ q → A q) (zz : zk dC dI cB cI cL A s)  (v0 : Int64) (a : Int32) (hG : g_W_isNumber v0 = some a) (H : Heap) (locs : List Loc) (hP : va_P (dC, dI) zcl ([] : va_W) H) (hD : va_D A ([] : va_W)) (hS : va_S A s.heap H locs) (ls : Array Slot) (hl : lv_has ls 2 [(0, .long v0)]) : W p l e R s m args below meth c H locs 0 0 (MQ below (q_W_isNumber dC dI cB cI cL A a) args s 0 0 A) (F0 m 0 ls []) := by
  obtain ⟨hx, hb, hr, hml, hown, hts, hlocks, hRf, hRl⟩ := id X
  unfold g_W_isNumber at hG
  refine lv_lload_n hx hb d_W_isNumber_0 rfl (lv_at hl 0 rfl) ?_
  refine lv_lconst (v := (0 : Int64)) hx hb d_W_isNumber_1 (by decide) ?_
  refine W.lcmp hx hb d_W_isNumber_2 ?_
  refine lv_if_lt (tgt := 18) hx hb d_W_isNumber_3 (by decide) (fun hc => ?_) (fun hc => ?_)
  · have hG := zt hG hc
    exact k_W_isNumber_18 X hA zz _ hG _ _ hP hD hS _ (lv_sub hl [] rfl)
  · have hG := zf hG hc
    refine lv_lload_n hx hb d_W_isNumber_6 rfl (lv_at hl 0 rfl) ?_
    refine lv_ldc2 (v := (4611686018427387903 : Int64)) hx hb hown (hts (.constantLong R_W 317 (4611686018427387903 : Int64)) zin_W_317) d_W_isNumber_7 ?_
    refine W.lcmp hx hb d_W_isNumber_10 ?_
    refine lv_if_gt (tgt := 18) hx hb d_W_isNumber_11 (by decide) (fun hc => ?_) (fun hc => ?_)
    · have hG := zt hG hc
      exact k_W_isNumber_18 X hA zz _ hG _ _ hP hD hS _ (lv_sub hl [] rfl)
    · have hG := zf hG hc
      refine lv_iconst (v := (1 : Int32)) hx hb d_W_isNumber_14 (by decide) ?_
      refine lv_goto (tgt := 19) hx hb d_W_isNumber_15 (by decide) ?_
      exact k_W_isNumber_19 X hA zz (1 : Int32) _ hG _ _ hP hD hS _ (lv_sub hl [] rfl)
set_option maxRecDepth 100000 in
set_option maxHeartbeats 4000000 in
theorem c_W_isNumber (l : Launch) (dC : Nat → ClassId) (dI : Nat → Nat → Nat) (cB cI cL : ClassId) (sz : Nat) (v0 : Int64) (a : Int32) (hG : g_W_isNumber v0 = some a) : Met l y_W_isNumber (zw y_W_isNumber b_W_isNumber 2 (some .boolean)) ({ frames := 0, cells := 0, slots := 0, locals := 0 }) (va_Pc [.long v0] (zpre dC dI cB cI cL sz ([] : va_W))) (q_W_isNumber dC dI cB cI cL (va_A ([] : va_W) sz) a) 0 0 (va_A ([] : va_W) sz) := by
  refine Met.ofW (cc := b_W_isNumber) (maxL := 2) (ret := (some .boolean)) (by decide) rfl ?_
  intro p e s m args below meth c s₁ B hml hv
  obtain ⟨rfl, hsz, hP, zz, hD0⟩ := hv
  subst hsz
  have X := zx_of (F := 0) (L := 0) B hml (Nat.le_refl _) (Nat.le_refl _)
  have hD := hD0.self (sz := s.heap.size)
  have hA : ∀ q : Nat, s.heap.size ≤ q → va_A ([] : va_W) s.heap.size q := fun q h => Or.inr h
  have hl := lv_entry ([.long v0]) (n := 2) (Nat.le_of_ble_eq_true rfl)
  rw [lg_entry_eq]
  generalize (lg_sl ([.long v0]) ++ List.replicate (2 - (lg_sl ([.long v0])).length) Slot.unset).toArray = ls at hl ⊢
  exact k_W_isNumber_0 X hA zz v0 a hG _ _ hP hD va_S.rf ls hl
noncomputable def g_W_isNumberOrNone_20 (s0 : Int32) : Option (Int32) := zg (narrow .boolean (.int s0) = .int s0) (some (s0))
noncomputable def g_W_isNumberOrNone_15  : Option (Int32) := g_W_isNumberOrNone_20 (1 : Int32)
noncomputable def g_W_isNumberOrNone_c9 (r_9 : Int32) : Option (Int32) := if r_9 = (0 : Int32) then (g_W_isNumberOrNone_20 (0 : Int32)) else g_W_isNumberOrNone_15
noncomputable def g_W_isNumberOrNone (v0 : Int64) : Option (Int32) := if (lg_cmp v0 (-1 : Int64)) = (0 : Int32) then g_W_isNumberOrNone_15 else ((g_W_isNumber v0).bind (fun a => g_W_isNumberOrNone_c9 a))
def q_W_isNumberOrNone (dC : Nat → ClassId) (dI : Nat → Nat → Nat) (cB cI cL : ClassId) (A : Nat → Prop) (a : Int32) : Array Value → State → Outcome → State → Prop := va_Qi (fun (r : Int32) (u : Unit) => (r) = a) (fun u U => va_P (dC, dI) zcl ([] : va_W) U.heap ∧ va_D A ([] : va_W)) A
set_option maxRecDepth 100000 in
set_option maxHeartbeats 4000000 in
theorem k_W_isNumberOrNone_20 {p : Program} {l : Launch} {e : Env} {R : Room} {s : State} {m : MethodId} {args : Array Value} {below : List Frame} {meth : Method} {c : Code} {dC : Nat → ClassId} {dI : Nat → Nat → Nat} {cB cI cL : ClassId} {A : Nat → Prop} (X : zx p s m args meth c R R_W b_W_isNumberOrNone (some .boolean) 2 1 21) (hA : ∀ q, s.heap.size ≤ q → A q) (zz : zk dC dI cB cI cL A s)  (s0 : Int32) (a : Int32) (hG : g_W_isNumberOrNone_20 s0 = some a) (H : Heap) (locs : List Loc) (hP : va_P (dC, dI) zcl ([] : va_W) H) (hD : va_D A ([] : va_W)) (hS : va_S A s.heap H locs) (ls : Array Slot) (hl : lv_has ls 2 []) : W p l e R s m args below meth c H locs 0 0 (MQ below (q_W_isNumberOrNone dC dI cB cI cL A a) args s 0 0 A) (F0 m 20 ls [.int s0]) := by
  obtain ⟨hx, hb, hr, hml, hown, hts, hlocks, hRf, hRl⟩ := id X
  unfold g_W_isNumberOrNone_20 at hG
  obtain ⟨hnb, hG⟩ := zgd hG
  exact W.zret (v := s0) hx hb hr hnb (fun t9 ht9 hW9 => ⟨⟨s0, (), rfl, Option.some.inj hG, by rw [ht9]; exact hP, hD⟩, hS.F ht9⟩) hS.2.2 d_W_isNumberOrNone_20
set_option maxRecDepth 100000 in
set_option maxHeartbeats 4000000 in
theorem k_W_isNumberOrNone_15 {p : Program} {l : Launch} {e : Env} {R : Room} {s : State} {m : MethodId} {args : Array Value} {below : List Frame} {meth : Method} {c : Code} {dC : Nat → ClassId} {dI : Nat → Nat → Nat} {cB cI cL : ClassId} {A : Nat → Prop} (X : zx p s m args meth c R R_W b_W_isNumberOrNone (some .boolean) 2 1 21) (hA : ∀ q, s.heap.size ≤ q → A q) (zz : zk dC dI cB cI cL A s)  (a : Int32) (hG : g_W_isNumberOrNone_15  = some a) (H : Heap) (locs : List Loc) (hP : va_P (dC, dI) zcl ([] : va_W) H) (hD : va_D A ([] : va_W)) (hS : va_S A s.heap H locs) (ls : Array Slot) (hl : lv_has ls 2 []) : W p l e R s m args below meth c H locs 0 0 (MQ below (q_W_isNumberOrNone dC dI cB cI cL A a) args s 0 0 A) (F0 m 15 ls []) := by
  obtain ⟨hx, hb, hr, hml, hown, hts, hlocks, hRf, hRl⟩ := id X
  unfold g_W_isNumberOrNone_15 at hG
  refine lv_iconst (v := (1 : Int32)) hx hb d_W_isNumberOrNone_15 (by decide) ?_
  refine lv_goto (tgt := 20) hx hb d_W_isNumberOrNone_16 (by decide) ?_
  exact k_W_isNumberOrNone_20 X hA zz (1 : Int32) _ hG _ _ hP hD hS _ (lv_sub hl [] rfl)
set_option maxRecDepth 100000 in
set_option maxHeartbeats 4000000 in
theorem k_W_isNumberOrNone_0 {p : Program} {l : Launch} {e : Env} {R : Room} {s : State} {m : MethodId} {args : Array Value} {below : List Frame} {meth : Method} {c : Code} {dC : Nat → ClassId} {dI : Nat → Nat → Nat} {cB cI cL : ClassId} {A : Nat → Prop} (X : zx p s m args meth c R R_W b_W_isNumberOrNone (some .boolean) 2 1 21) (hA : ∀ q, s.heap.size ≤ q → A q) (zz : zk dC dI cB cI cL A s)  (v0 : Int64) (a : Int32) (hG : g_W_isNumberOrNone v0 = some a) (H : Heap) (locs : List Loc) (hP : va_P (dC, dI) zcl ([] : va_W) H) (hD : va_D A ([] : va_W)) (hS : va_S A s.heap H locs) (ls : Array Slot) (hl : lv_has ls 2 [(0, .long v0)]) : W p l e R s m args below meth c H locs 0 0 (MQ below (q_W_isNumberOrNone dC dI cB cI cL A a) args s 0 0 A) (F0 m 0 ls []) := by
  obtain ⟨hx, hb, hr, hml, hown, hts, hlocks, hRf, hRl⟩ := id X
  unfold g_W_isNumberOrNone at hG
  refine lv_lload_n hx hb d_W_isNumberOrNone_0 rfl (lv_at hl 0 rfl) ?_
  refine lv_ldc2 (v := (-1 : Int64)) hx hb hown (hts (.constantLong R_W 125 (-1 : Int64)) zin_W_125) d_W_isNumberOrNone_1 ?_
  refine W.lcmp hx hb d_W_isNumberOrNone_4 ?_
  refine lv_if_eq (tgt := 15) hx hb d_W_isNumberOrNone_5 (by decide) (fun hc => ?_) (fun hc => ?_)
  · have hG := zt hG hc
    exact k_W_isNumberOrNone_15 X hA zz _ hG _ _ hP hD hS _ (lv_sub hl [] rfl)
  · have hG := zf hG hc
    refine lv_lload_n hx hb d_W_isNumberOrNone_8 rfl (lv_at hl 0 rfl) ?_
    obtain ⟨a_9, hx_9, hG⟩ := zb hG
    have hr_9 := zrunS (p := p) (e := e) (below := below) (meth := meth) (As := [.long v0]) (rest := []) (st0 := [.long v0]) (cells := 0) (slots := 0) X zz hP hD hS hA [] (by decide) rfl (c_W_isNumber l dC dI cB cI cL H.size v0 _ hx_9) zy_W_isNumber zv_W_isNumber (hts (.methodLink R_W 78 y_W_isNumber) zin_W_78) hl rfl rfl d_W_isNumberOrNone_9 (lv_room (Nat.le_of_ble_eq_true rfl)) rfl rfl ⟨Nat.le_trans (Nat.le_of_ble_eq_true rfl) hRf, Nat.le_trans (Nat.le_of_ble_eq_true rfl) hRl⟩ ⟨Nat.zero_le _, Nat.zero_le _⟩
    refine zcalli (wr := ([] : va_W)) hr_9 hP hD hS hA [] [] rfl rfl (by decide) (by decide) (fun r_9 u_9 H locs hw_9 hP hD hS => ?_)
    subst hw_9
    have hP : va_P (dC, dI) zcl ([] : va_W) H := hP
    have hD : va_D A ([] : va_W) := hD
    have hG : g_W_isNumberOrNone_c9 r_9 = some a := hG
    unfold g_W_isNumberOrNone_c9 at hG
    refine lv_if_eq (tgt := 19) hx hb d_W_isNumberOrNone_12 (by decide) (fun hc => ?_) (fun hc => ?_)
    · have hG := zt hG hc
      refine lv_iconst (v := (0 : Int32)) hx hb d_W_isNumberOrNone_19 (by decide) ?_
      exact k_W_isNumberOrNone_20 X hA zz (0 : Int32) _ hG _ _ hP hD hS _ (lv_sub hl [] rfl)
    · have hG := zf hG hc
      exact k_W_isNumberOrNone_15 X hA zz _ hG _ _ hP hD hS _ (lv_sub hl [] rfl)
set_option maxRecDepth 100000 in
set_option maxHeartbeats 4000000 in
theorem c_W_isNumberOrNone (l : Launch) (dC : Nat → ClassId) (dI : Nat → Nat → Nat) (cB cI cL : ClassId) (sz : Nat) (v0 : Int64) (a : Int32) (hG : g_W_isNumberOrNone v0 = some a) : Met l y_W_isNumberOrNone (zw y_W_isNumberOrNone b_W_isNumberOrNone 2 (some .boolean)) ({ frames := 1, cells := 0, slots := 0, locals := 21 }) (va_Pc [.long v0] (zpre dC dI cB cI cL sz ([] : va_W))) (q_W_isNumberOrNone dC dI cB cI cL (va_A ([] : va_W) sz) a) 0 0 (va_A ([] : va_W) sz) := by
  refine Met.ofW (cc := b_W_isNumberOrNone) (maxL := 2) (ret := (some .boolean)) (by decide) rfl ?_
  intro p e s m args below meth c s₁ B hml hv
  obtain ⟨rfl, hsz, hP, zz, hD0⟩ := hv
  subst hsz
  have X := zx_of (F := 1) (L := 21) B hml (Nat.le_refl _) (Nat.le_refl _)
  have hD := hD0.self (sz := s.heap.size)
  have hA : ∀ q : Nat, s.heap.size ≤ q → va_A ([] : va_W) s.heap.size q := fun q h => Or.inr h
  have hl := lv_entry ([.long v0]) (n := 2) (Nat.le_of_ble_eq_true rfl)
  rw [lg_entry_eq]
  generalize (lg_sl ([.long v0]) ++ List.replicate (2 - (lg_sl ([.long v0])).length) Slot.unset).toArray = ls at hl ⊢
  exact k_W_isNumberOrNone_0 X hA zz v0 a hG _ _ hP hD va_S.rf ls hl
noncomputable def g_W_isNumberSize_26 (s0 : Int32) : Option (Int32) := zg (narrow .boolean (.int s0) = .int s0) (some (s0))
noncomputable def g_W_isNumberSize_21  : Option (Int32) := g_W_isNumberSize_26 (1 : Int32)
noncomputable def g_W_isNumberSize (v0 : Int32) : Option (Int32) := if v0 = (1 : Int32) then g_W_isNumberSize_21 else (if v0 = (2 : Int32) then g_W_isNumberSize_21 else (if v0 = (4 : Int32) then g_W_isNumberSize_21 else (if v0 = (8 : Int32) then g_W_isNumberSize_21 else (g_W_isNumberSize_26 (0 : Int32)))))
def q_W_isNumberSize (dC : Nat → ClassId) (dI : Nat → Nat → Nat) (cB cI cL : ClassId) (A : Nat → Prop) (a : Int32) : Array Value → State → Outcome → State → Prop := va_Qi (fun (r : Int32) (u : Unit) => (r) = a) (fun u U => va_P (dC, dI) zcl ([] : va_W) U.heap ∧ va_D A ([] : va_W)) A
set_option maxRecDepth 100000 in
set_option maxHeartbeats 4000000 in
theorem k_W_isNumberSize_26 {p : Program} {l : Launch} {e : Env} {R : Room} {s : State} {m : MethodId} {args : Array Value} {below : List Frame} {meth : Method} {c : Code} {dC : Nat → ClassId} {dI : Nat → Nat → Nat} {cB cI cL : ClassId} {A : Nat → Prop} (X : zx p s m args meth c R R_W b_W_isNumberSize (some .boolean) 1 0 0) (hA : ∀ q, s.heap.size ≤ q → A q) (zz : zk dC dI cB cI cL A s)  (s0 : Int32) (a : Int32) (hG : g_W_isNumberSize_26 s0 = some a) (H : Heap) (locs : List Loc) (hP : va_P (dC, dI) zcl ([] : va_W) H) (hD : va_D A ([] : va_W)) (hS : va_S A s.heap H locs) (ls : Array Slot) (hl : lv_has ls 1 []) : W p l e R s m args below meth c H locs 0 0 (MQ below (q_W_isNumberSize dC dI cB cI cL A a) args s 0 0 A) (F0 m 26 ls [.int s0]) := by
  obtain ⟨hx, hb, hr, hml, hown, hts, hlocks, hRf, hRl⟩ := id X
  unfold g_W_isNumberSize_26 at hG
  obtain ⟨hnb, hG⟩ := zgd hG
  exact W.zret (v := s0) hx hb hr hnb (fun t9 ht9 hW9 => ⟨⟨s0, (), rfl, Option.some.inj hG, by rw [ht9]; exact hP, hD⟩, hS.F ht9⟩) hS.2.2 d_W_isNumberSize_26
set_option maxRecDepth 100000 in
set_option maxHeartbeats 4000000 in
theorem k_W_isNumberSize_21 {p : Program} {l : Launch} {e : Env} {R : Room} {s : State} {m : MethodId} {args : Array Value} {below : List Frame} {meth : Method} {c : Code} {dC : Nat → ClassId} {dI : Nat → Nat → Nat} {cB cI cL : ClassId} {A : Nat → Prop} (X : zx p s m args meth c R R_W b_W_isNumberSize (some .boolean) 1 0 0) (hA : ∀ q, s.heap.size ≤ q → A q) (zz : zk dC dI cB cI cL A s)  (a : Int32) (hG : g_W_isNumberSize_21  = some a) (H : Heap) (locs : List Loc) (hP : va_P (dC, dI) zcl ([] : va_W) H) (hD : va_D A ([] : va_W)) (hS : va_S A s.heap H locs) (ls : Array Slot) (hl : lv_has ls 1 []) : W p l e R s m args below meth c H locs 0 0 (MQ below (q_W_isNumberSize dC dI cB cI cL A a) args s 0 0 A) (F0 m 21 ls []) := by
  obtain ⟨hx, hb, hr, hml, hown, hts, hlocks, hRf, hRl⟩ := id X
  unfold g_W_isNumberSize_21 at hG
  refine lv_iconst (v := (1 : Int32)) hx hb d_W_isNumberSize_21 (by decide) ?_
  refine lv_goto (tgt := 26) hx hb d_W_isNumberSize_22 (by decide) ?_
  exact k_W_isNumberSize_26 X hA zz (1 : Int32) _ hG _ _ hP hD hS _ (lv_sub hl [] rfl)
set_option maxRecDepth 100000 in
set_option maxHeartbeats 4000000 in
theorem k_W_isNumberSize_0 {p : Program} {l : Launch} {e : Env} {R : Room} {s : State} {m : MethodId} {args : Array Value} {below : List Frame} {meth : Method} {c : Code} {dC : Nat → ClassId} {dI : Nat → Nat → Nat} {cB cI cL : ClassId} {A : Nat → Prop} (X : zx p s m args meth c R R_W b_W_isNumberSize (some .boolean) 1 0 0) (hA : ∀ q, s.heap.size ≤ q → A q) (zz : zk dC dI cB cI cL A s)  (v0 : Int32) (a : Int32) (hG : g_W_isNumberSize v0 = some a) (H : Heap) (locs : List Loc) (hP : va_P (dC, dI) zcl ([] : va_W) H) (hD : va_D A ([] : va_W)) (hS : va_S A s.heap H locs) (ls : Array Slot) (hl : lv_has ls 1 [(0, .int v0)]) : W p l e R s m args below meth c H locs 0 0 (MQ below (q_W_isNumberSize dC dI cB cI cL A a) args s 0 0 A) (F0 m 0 ls []) := by
  obtain ⟨hx, hb, hr, hml, hown, hts, hlocks, hRf, hRl⟩ := id X
  unfold g_W_isNumberSize at hG
  refine lv_iload_n hx hb d_W_isNumberSize_0 rfl (lv_at hl 0 rfl) ?_
  refine lv_iconst (v := (1 : Int32)) hx hb d_W_isNumberSize_1 (by decide) ?_
  refine lv_icmp_eq (tgt := 21) hx hb d_W_isNumberSize_2 (by decide) (fun hc => ?_) (fun hc => ?_)
  · have hG := zt hG hc
    exact k_W_isNumberSize_21 X hA zz _ hG _ _ hP hD hS _ (lv_sub hl [] rfl)
  · have hG := zf hG hc
    refine lv_iload_n hx hb d_W_isNumberSize_5 rfl (lv_at hl 0 rfl) ?_
    refine lv_iconst (v := (2 : Int32)) hx hb d_W_isNumberSize_6 (by decide) ?_
    refine lv_icmp_eq (tgt := 21) hx hb d_W_isNumberSize_7 (by decide) (fun hc => ?_) (fun hc => ?_)
    · have hG := zt hG hc
      exact k_W_isNumberSize_21 X hA zz _ hG _ _ hP hD hS _ (lv_sub hl [] rfl)
    · have hG := zf hG hc
      refine lv_iload_n hx hb d_W_isNumberSize_10 rfl (lv_at hl 0 rfl) ?_
      refine lv_iconst (v := (4 : Int32)) hx hb d_W_isNumberSize_11 (by decide) ?_
      refine lv_icmp_eq (tgt := 21) hx hb d_W_isNumberSize_12 (by decide) (fun hc => ?_) (fun hc => ?_)
      · have hG := zt hG hc
        exact k_W_isNumberSize_21 X hA zz _ hG _ _ hP hD hS _ (lv_sub hl [] rfl)
      · have hG := zf hG hc
        refine lv_iload_n hx hb d_W_isNumberSize_15 rfl (lv_at hl 0 rfl) ?_
        refine lv_bipush (v := (8 : Int32)) hx hb d_W_isNumberSize_16 (by decide) ?_
        refine lv_icmp_ne (tgt := 25) hx hb d_W_isNumberSize_18 (by decide) (fun hc => ?_) (fun hc => ?_)
        · have hG := zf hG hc
          refine lv_iconst (v := (0 : Int32)) hx hb d_W_isNumberSize_25 (by decide) ?_
          exact k_W_isNumberSize_26 X hA zz (0 : Int32) _ hG _ _ hP hD hS _ (lv_sub hl [] rfl)
        · have hG := zt hG hc
          exact k_W_isNumberSize_21 X hA zz _ hG _ _ hP hD hS _ (lv_sub hl [] rfl)
set_option maxRecDepth 100000 in
set_option maxHeartbeats 4000000 in
theorem c_W_isNumberSize (l : Launch) (dC : Nat → ClassId) (dI : Nat → Nat → Nat) (cB cI cL : ClassId) (sz : Nat) (v0 : Int32) (a : Int32) (hG : g_W_isNumberSize v0 = some a) : Met l y_W_isNumberSize (zw y_W_isNumberSize b_W_isNumberSize 1 (some .boolean)) ({ frames := 0, cells := 0, slots := 0, locals := 0 }) (va_Pc [.int v0] (zpre dC dI cB cI cL sz ([] : va_W))) (q_W_isNumberSize dC dI cB cI cL (va_A ([] : va_W) sz) a) 0 0 (va_A ([] : va_W) sz) := by
  refine Met.ofW (cc := b_W_isNumberSize) (maxL := 1) (ret := (some .boolean)) (by decide) rfl ?_
  intro p e s m args below meth c s₁ B hml hv
  obtain ⟨rfl, hsz, hP, zz, hD0⟩ := hv
  subst hsz
  have X := zx_of (F := 0) (L := 0) B hml (Nat.le_refl _) (Nat.le_refl _)
  have hD := hD0.self (sz := s.heap.size)
  have hA : ∀ q : Nat, s.heap.size ≤ q → va_A ([] : va_W) s.heap.size q := fun q h => Or.inr h
  have hl := lv_entry ([.int v0]) (n := 1) (Nat.le_of_ble_eq_true rfl)
  rw [lg_entry_eq]
  generalize (lg_sl ([.int v0]) ++ List.replicate (1 - (lg_sl ([.int v0])).length) Slot.unset).toArray = ls at hl ⊢
  exact k_W_isNumberSize_0 X hA zz v0 a hG _ _ hP hD va_S.rf ls hl
noncomputable def g_W_fewestBytes_34 (s0 : Int32) : Option (Int32) := some (s0)
noncomputable def g_W_fewestBytes (v0 : Int64) : Option (Int32) := if (0 : Int32) ≤ (lg_cmp v0 (64 : Int64)) then (if (0 : Int32) ≤ (lg_cmp v0 (16384 : Int64)) then (if (0 : Int32) ≤ (lg_cmp v0 (1073741824 : Int64)) then (g_W_fewestBytes_34 (8 : Int32)) else (g_W_fewestBytes_34 (4 : Int32))) else (some ((2 : Int32)))) else (some ((1 : Int32)))
def q_W_fewestBytes (dC : Nat → ClassId) (dI : Nat → Nat → Nat) (cB cI cL : ClassId) (A : Nat → Prop) (a : Int32) : Array Value → State → Outcome → State → Prop := va_Qi (fun (r : Int32) (u : Unit) => (r) = a) (fun u U => va_P (dC, dI) zcl ([] : va_W) U.heap ∧ va_D A ([] : va_W)) A
set_option maxRecDepth 100000 in
set_option maxHeartbeats 4000000 in
theorem k_W_fewestBytes_34 {p : Program} {l : Launch} {e : Env} {R : Room} {s : State} {m : MethodId} {args : Array Value} {below : List Frame} {meth : Method} {c : Code} {dC : Nat → ClassId} {dI : Nat → Nat → Nat} {cB cI cL : ClassId} {A : Nat → Prop} (X : zx p s m args meth c R R_W b_W_fewestBytes (some .int) 2 0 0) (hA : ∀ q, s.heap.size ≤ q → A q) (zz : zk dC dI cB cI cL A s)  (s0 : Int32) (a : Int32) (hG : g_W_fewestBytes_34 s0 = some a) (H : Heap) (locs : List Loc) (hP : va_P (dC, dI) zcl ([] : va_W) H) (hD : va_D A ([] : va_W)) (hS : va_S A s.heap H locs) (ls : Array Slot) (hl : lv_has ls 2 []) : W p l e R s m args below meth c H locs 0 0 (MQ below (q_W_fewestBytes dC dI cB cI cL A a) args s 0 0 A) (F0 m 34 ls [.int s0]) := by
  obtain ⟨hx, hb, hr, hml, hown, hts, hlocks, hRf, hRl⟩ := id X
  unfold g_W_fewestBytes_34 at hG
  exact W.iret (v := s0) hx hb hr (fun t9 ht9 hW9 => ⟨⟨s0, (), rfl, Option.some.inj hG, by rw [ht9]; exact hP, hD⟩, hS.F ht9⟩) hS.2.2 d_W_fewestBytes_34
set_option maxRecDepth 100000 in
set_option maxHeartbeats 4000000 in
theorem k_W_fewestBytes_0 {p : Program} {l : Launch} {e : Env} {R : Room} {s : State} {m : MethodId} {args : Array Value} {below : List Frame} {meth : Method} {c : Code} {dC : Nat → ClassId} {dI : Nat → Nat → Nat} {cB cI cL : ClassId} {A : Nat → Prop} (X : zx p s m args meth c R R_W b_W_fewestBytes (some .int) 2 0 0) (hA : ∀ q, s.heap.size ≤ q → A q) (zz : zk dC dI cB cI cL A s)  (v0 : Int64) (a : Int32) (hG : g_W_fewestBytes v0 = some a) (H : Heap) (locs : List Loc) (hP : va_P (dC, dI) zcl ([] : va_W) H) (hD : va_D A ([] : va_W)) (hS : va_S A s.heap H locs) (ls : Array Slot) (hl : lv_has ls 2 [(0, .long v0)]) : W p l e R s m args below meth c H locs 0 0 (MQ below (q_W_fewestBytes dC dI cB cI cL A a) args s 0 0 A) (F0 m 0 ls []) := by
  obtain ⟨hx, hb, hr, hml, hown, hts, hlocks, hRf, hRl⟩ := id X
  unfold g_W_fewestBytes at hG
  refine lv_lload_n hx hb d_W_fewestBytes_0 rfl (lv_at hl 0 rfl) ?_
  refine lv_ldc2 (v := (64 : Int64)) hx hb hown (hts (.constantLong R_W 319 (64 : Int64)) zin_W_319) d_W_fewestBytes_1 ?_
  refine W.lcmp hx hb d_W_fewestBytes_4 ?_
  refine lv_if_ge (tgt := 10) hx hb d_W_fewestBytes_5 (by decide) (fun hc => ?_) (fun hc => ?_)
  · have hG := zt hG hc
    refine lv_lload_n hx hb d_W_fewestBytes_10 rfl (lv_at hl 0 rfl) ?_
    refine lv_ldc2 (v := (16384 : Int64)) hx hb hown (hts (.constantLong R_W 321 (16384 : Int64)) zin_W_321) d_W_fewestBytes_11 ?_
    refine W.lcmp hx hb d_W_fewestBytes_14 ?_
    refine lv_if_ge (tgt := 20) hx hb d_W_fewestBytes_15 (by decide) (fun hc => ?_) (fun hc => ?_)
    · have hG := zt hG hc
      refine lv_lload_n hx hb d_W_fewestBytes_20 rfl (lv_at hl 0 rfl) ?_
      refine lv_ldc2 (v := (1073741824 : Int64)) hx hb hown (hts (.constantLong R_W 323 (1073741824 : Int64)) zin_W_323) d_W_fewestBytes_21 ?_
      refine W.lcmp hx hb d_W_fewestBytes_24 ?_
      refine lv_if_ge (tgt := 32) hx hb d_W_fewestBytes_25 (by decide) (fun hc => ?_) (fun hc => ?_)
      · have hG := zt hG hc
        refine lv_bipush (v := (8 : Int32)) hx hb d_W_fewestBytes_32 (by decide) ?_
        exact k_W_fewestBytes_34 X hA zz (8 : Int32) _ hG _ _ hP hD hS _ (lv_sub hl [] rfl)
      · have hG := zf hG hc
        refine lv_iconst (v := (4 : Int32)) hx hb d_W_fewestBytes_28 (by decide) ?_
        refine lv_goto (tgt := 34) hx hb d_W_fewestBytes_29 (by decide) ?_
        exact k_W_fewestBytes_34 X hA zz (4 : Int32) _ hG _ _ hP hD hS _ (lv_sub hl [] rfl)
    · have hG := zf hG hc
      refine lv_iconst (v := (2 : Int32)) hx hb d_W_fewestBytes_18 (by decide) ?_
      exact W.iret (v := (2 : Int32)) hx hb hr (fun t9 ht9 hW9 => ⟨⟨(2 : Int32), (), rfl, Option.some.inj hG, by rw [ht9]; exact hP, hD⟩, hS.F ht9⟩) hS.2.2 d_W_fewestBytes_19
  · have hG := zf hG hc
    refine lv_iconst (v := (1 : Int32)) hx hb d_W_fewestBytes_8 (by decide) ?_
    exact W.iret (v := (1 : Int32)) hx hb hr (fun t9 ht9 hW9 => ⟨⟨(1 : Int32), (), rfl, Option.some.inj hG, by rw [ht9]; exact hP, hD⟩, hS.F ht9⟩) hS.2.2 d_W_fewestBytes_9
set_option maxRecDepth 100000 in
set_option maxHeartbeats 4000000 in
theorem c_W_fewestBytes (l : Launch) (dC : Nat → ClassId) (dI : Nat → Nat → Nat) (cB cI cL : ClassId) (sz : Nat) (v0 : Int64) (a : Int32) (hG : g_W_fewestBytes v0 = some a) : Met l y_W_fewestBytes (zw y_W_fewestBytes b_W_fewestBytes 2 (some .int)) ({ frames := 0, cells := 0, slots := 0, locals := 0 }) (va_Pc [.long v0] (zpre dC dI cB cI cL sz ([] : va_W))) (q_W_fewestBytes dC dI cB cI cL (va_A ([] : va_W) sz) a) 0 0 (va_A ([] : va_W) sz) := by
  refine Met.ofW (cc := b_W_fewestBytes) (maxL := 2) (ret := (some .int)) (by decide) rfl ?_
  intro p e s m args below meth c s₁ B hml hv
  obtain ⟨rfl, hsz, hP, zz, hD0⟩ := hv
  subst hsz
  have X := zx_of (F := 0) (L := 0) B hml (Nat.le_refl _) (Nat.le_refl _)
  have hD := hD0.self (sz := s.heap.size)
  have hA : ∀ q : Nat, s.heap.size ≤ q → va_A ([] : va_W) s.heap.size q := fun q h => Or.inr h
  have hl := lv_entry ([.long v0]) (n := 2) (Nat.le_of_ble_eq_true rfl)
  rw [lg_entry_eq]
  generalize (lg_sl ([.long v0]) ++ List.replicate (2 - (lg_sl ([.long v0])).length) Slot.unset).toArray = ls at hl ⊢
  exact k_W_fewestBytes_0 X hA zz v0 a hG _ _ hP hD va_S.rf ls hl
noncomputable def g_W_fieldsHold_121 (s0 : Int32) : Option (Int32) := zg (narrow .boolean (.int s0) = .int s0) (some (s0))
noncomputable def g_W_fieldsHold_105 (v3 : Int64) (v5 : Int64) : Option (Int32) := if (0 : Int32) < (lg_cmp v3 ((4611686018427387903 : Int64) - v5)) then (g_W_fieldsHold_121 (0 : Int32)) else (g_W_fieldsHold_121 (1 : Int32))
noncomputable def g_W_fieldsHold_104 (s0 : Int32) : Option (Int32) := zg (narrow .boolean (.int s0) = .int s0) (some (s0))
noncomputable def g_W_fieldsHold_135 (s0 : Int32) : Option (Int32) := zg (narrow .boolean (.int s0) = .int s0) (some (s0))
noncomputable def g_W_fieldsHold_122 (v1 : Int64) : Option (Int32) := if (0 : Int32) < (lg_cmp v1 (1152921504606846976 : Int64)) then (g_W_fieldsHold_135 (0 : Int32)) else (g_W_fieldsHold_135 (1 : Int32))
noncomputable def g_W_fieldsHold_163 (s0 : Int32) : Option (Int32) := zg (narrow .boolean (.int s0) = .int s0) (some (s0))
noncomputable def g_W_fieldsHold_162  : Option (Int32) := g_W_fieldsHold_163 (0 : Int32)
noncomputable def g_W_fieldsHold_164  : Option (Int32) := some ((1 : Int32))
noncomputable def g_W_fieldsHold (v0 : Int32) (v1 : Int64) (v3 : Int64) (v5 : Int64) : Option (Int32) := if v0 = (6 : Int32) then (g_W_fieldsHold_105 v3 v5) else if v0 = (7 : Int32) then (if (lg_cmp v5 (0 : Int64)) ≤ (0 : Int32) then (g_W_fieldsHold_104 (0 : Int32)) else (g_W_fieldsHold_104 (1 : Int32))) else if v0 = (8 : Int32) then (g_W_fieldsHold_105 v3 v5) else if v0 = (18 : Int32) then (g_W_fieldsHold_122 v1) else if v0 = (19 : Int32) then (g_W_fieldsHold_122 v1) else if v0 = (22 : Int32) then (g_W_fieldsHold_122 v1) else if v0 = (23 : Int32) then (g_W_fieldsHold_122 v1) else if v0 = (24 : Int32) then (if (0 : Int32) < (lg_cmp v3 v1) then g_W_fieldsHold_162 else (if (lg_cmp v5 (1 : Int64)) < (0 : Int32) then g_W_fieldsHold_162 else (if (0 : Int32) < (lg_cmp v5 (20 : Int64)) then g_W_fieldsHold_162 else (g_W_fieldsHold_163 (1 : Int32))))) else g_W_fieldsHold_164
def q_W_fieldsHold (dC : Nat → ClassId) (dI : Nat → Nat → Nat) (cB cI cL : ClassId) (A : Nat → Prop) (a : Int32) : Array Value → State → Outcome → State → Prop := va_Qi (fun (r : Int32) (u : Unit) => (r) = a) (fun u U => va_P (dC, dI) zcl ([] : va_W) U.heap ∧ va_D A ([] : va_W)) A
set_option maxRecDepth 100000 in
set_option maxHeartbeats 4000000 in
theorem k_W_fieldsHold_121 {p : Program} {l : Launch} {e : Env} {R : Room} {s : State} {m : MethodId} {args : Array Value} {below : List Frame} {meth : Method} {c : Code} {dC : Nat → ClassId} {dI : Nat → Nat → Nat} {cB cI cL : ClassId} {A : Nat → Prop} (X : zx p s m args meth c R R_W b_W_fieldsHold (some .boolean) 7 0 0) (hA : ∀ q, s.heap.size ≤ q → A q) (zz : zk dC dI cB cI cL A s)  (s0 : Int32) (a : Int32) (hG : g_W_fieldsHold_121 s0 = some a) (H : Heap) (locs : List Loc) (hP : va_P (dC, dI) zcl ([] : va_W) H) (hD : va_D A ([] : va_W)) (hS : va_S A s.heap H locs) (ls : Array Slot) (hl : lv_has ls 7 []) : W p l e R s m args below meth c H locs 0 0 (MQ below (q_W_fieldsHold dC dI cB cI cL A a) args s 0 0 A) (F0 m 121 ls [.int s0]) := by
  obtain ⟨hx, hb, hr, hml, hown, hts, hlocks, hRf, hRl⟩ := id X
  unfold g_W_fieldsHold_121 at hG
  obtain ⟨hnb, hG⟩ := zgd hG
  exact W.zret (v := s0) hx hb hr hnb (fun t9 ht9 hW9 => ⟨⟨s0, (), rfl, Option.some.inj hG, by rw [ht9]; exact hP, hD⟩, hS.F ht9⟩) hS.2.2 d_W_fieldsHold_121
set_option maxRecDepth 100000 in
set_option maxHeartbeats 4000000 in
theorem k_W_fieldsHold_105 {p : Program} {l : Launch} {e : Env} {R : Room} {s : State} {m : MethodId} {args : Array Value} {below : List Frame} {meth : Method} {c : Code} {dC : Nat → ClassId} {dI : Nat → Nat → Nat} {cB cI cL : ClassId} {A : Nat → Prop} (X : zx p s m args meth c R R_W b_W_fieldsHold (some .boolean) 7 0 0) (hA : ∀ q, s.heap.size ≤ q → A q) (zz : zk dC dI cB cI cL A s)  (v3 : Int64) (v5 : Int64) (a : Int32) (hG : g_W_fieldsHold_105 v3 v5 = some a) (H : Heap) (locs : List Loc) (hP : va_P (dC, dI) zcl ([] : va_W) H) (hD : va_D A ([] : va_W)) (hS : va_S A s.heap H locs) (ls : Array Slot) (hl : lv_has ls 7 [(3, .long v3), (5, .long v5)]) : W p l e R s m args below meth c H locs 0 0 (MQ below (q_W_fieldsHold dC dI cB cI cL A a) args s 0 0 A) (F0 m 105 ls []) := by
  obtain ⟨hx, hb, hr, hml, hown, hts, hlocks, hRf, hRl⟩ := id X
  unfold g_W_fieldsHold_105 at hG
  refine lv_lload_n hx hb d_W_fieldsHold_105 rfl (lv_at hl 0 rfl) ?_
  refine lv_ldc2 (v := (4611686018427387903 : Int64)) hx hb hown (hts (.constantLong R_W 317 (4611686018427387903 : Int64)) zin_W_317) d_W_fieldsHold_106 ?_
  refine lv_lload hx hb d_W_fieldsHold_109 (lv_at hl 1 rfl) ?_
  refine lv_lsub hx hb d_W_fieldsHold_111 ?_
  refine W.lcmp hx hb d_W_fieldsHold_112 ?_
  refine lv_if_gt (tgt := 120) hx hb d_W_fieldsHold_113 (by decide) (fun hc => ?_) (fun hc => ?_)
  · have hG := zt hG hc
    refine lv_iconst (v := (0 : Int32)) hx hb d_W_fieldsHold_120 (by decide) ?_
    exact k_W_fieldsHold_121 X hA zz (0 : Int32) _ hG _ _ hP hD hS _ (lv_sub hl [] rfl)
  · have hG := zf hG hc
    refine lv_iconst (v := (1 : Int32)) hx hb d_W_fieldsHold_116 (by decide) ?_
    refine lv_goto (tgt := 121) hx hb d_W_fieldsHold_117 (by decide) ?_
    exact k_W_fieldsHold_121 X hA zz (1 : Int32) _ hG _ _ hP hD hS _ (lv_sub hl [] rfl)
set_option maxRecDepth 100000 in
set_option maxHeartbeats 4000000 in
theorem k_W_fieldsHold_104 {p : Program} {l : Launch} {e : Env} {R : Room} {s : State} {m : MethodId} {args : Array Value} {below : List Frame} {meth : Method} {c : Code} {dC : Nat → ClassId} {dI : Nat → Nat → Nat} {cB cI cL : ClassId} {A : Nat → Prop} (X : zx p s m args meth c R R_W b_W_fieldsHold (some .boolean) 7 0 0) (hA : ∀ q, s.heap.size ≤ q → A q) (zz : zk dC dI cB cI cL A s)  (s0 : Int32) (a : Int32) (hG : g_W_fieldsHold_104 s0 = some a) (H : Heap) (locs : List Loc) (hP : va_P (dC, dI) zcl ([] : va_W) H) (hD : va_D A ([] : va_W)) (hS : va_S A s.heap H locs) (ls : Array Slot) (hl : lv_has ls 7 []) : W p l e R s m args below meth c H locs 0 0 (MQ below (q_W_fieldsHold dC dI cB cI cL A a) args s 0 0 A) (F0 m 104 ls [.int s0]) := by
  obtain ⟨hx, hb, hr, hml, hown, hts, hlocks, hRf, hRl⟩ := id X
  unfold g_W_fieldsHold_104 at hG
  obtain ⟨hnb, hG⟩ := zgd hG
  exact W.zret (v := s0) hx hb hr hnb (fun t9 ht9 hW9 => ⟨⟨s0, (), rfl, Option.some.inj hG, by rw [ht9]; exact hP, hD⟩, hS.F ht9⟩) hS.2.2 d_W_fieldsHold_104
set_option maxRecDepth 100000 in
set_option maxHeartbeats 4000000 in
theorem k_W_fieldsHold_135 {p : Program} {l : Launch} {e : Env} {R : Room} {s : State} {m : MethodId} {args : Array Value} {below : List Frame} {meth : Method} {c : Code} {dC : Nat → ClassId} {dI : Nat → Nat → Nat} {cB cI cL : ClassId} {A : Nat → Prop} (X : zx p s m args meth c R R_W b_W_fieldsHold (some .boolean) 7 0 0) (hA : ∀ q, s.heap.size ≤ q → A q) (zz : zk dC dI cB cI cL A s)  (s0 : Int32) (a : Int32) (hG : g_W_fieldsHold_135 s0 = some a) (H : Heap) (locs : List Loc) (hP : va_P (dC, dI) zcl ([] : va_W) H) (hD : va_D A ([] : va_W)) (hS : va_S A s.heap H locs) (ls : Array Slot) (hl : lv_has ls 7 []) : W p l e R s m args below meth c H locs 0 0 (MQ below (q_W_fieldsHold dC dI cB cI cL A a) args s 0 0 A) (F0 m 135 ls [.int s0]) := by
  obtain ⟨hx, hb, hr, hml, hown, hts, hlocks, hRf, hRl⟩ := id X
  unfold g_W_fieldsHold_135 at hG
  obtain ⟨hnb, hG⟩ := zgd hG
  exact W.zret (v := s0) hx hb hr hnb (fun t9 ht9 hW9 => ⟨⟨s0, (), rfl, Option.some.inj hG, by rw [ht9]; exact hP, hD⟩, hS.F ht9⟩) hS.2.2 d_W_fieldsHold_135
set_option maxRecDepth 100000 in
set_option maxHeartbeats 4000000 in
theorem k_W_fieldsHold_122 {p : Program} {l : Launch} {e : Env} {R : Room} {s : State} {m : MethodId} {args : Array Value} {below : List Frame} {meth : Method} {c : Code} {dC : Nat → ClassId} {dI : Nat → Nat → Nat} {cB cI cL : ClassId} {A : Nat → Prop} (X : zx p s m args meth c R R_W b_W_fieldsHold (some .boolean) 7 0 0) (hA : ∀ q, s.heap.size ≤ q → A q) (zz : zk dC dI cB cI cL A s)  (v1 : Int64) (a : Int32) (hG : g_W_fieldsHold_122 v1 = some a) (H : Heap) (locs : List Loc) (hP : va_P (dC, dI) zcl ([] : va_W) H) (hD : va_D A ([] : va_W)) (hS : va_S A s.heap H locs) (ls : Array Slot) (hl : lv_has ls 7 [(1, .long v1)]) : W p l e R s m args below meth c H locs 0 0 (MQ below (q_W_fieldsHold dC dI cB cI cL A a) args s 0 0 A) (F0 m 122 ls []) := by
  obtain ⟨hx, hb, hr, hml, hown, hts, hlocks, hRf, hRl⟩ := id X
  unfold g_W_fieldsHold_122 at hG
  refine lv_lload_n hx hb d_W_fieldsHold_122 rfl (lv_at hl 0 rfl) ?_
  refine lv_ldc2 (v := (1152921504606846976 : Int64)) hx hb hown (hts (.constantLong R_W 325 (1152921504606846976 : Int64)) zin_W_325) d_W_fieldsHold_123 ?_
  refine W.lcmp hx hb d_W_fieldsHold_126 ?_
  refine lv_if_gt (tgt := 134) hx hb d_W_fieldsHold_127 (by decide) (fun hc => ?_) (fun hc => ?_)
  · have hG := zt hG hc
    refine lv_iconst (v := (0 : Int32)) hx hb d_W_fieldsHold_134 (by decide) ?_
    exact k_W_fieldsHold_135 X hA zz (0 : Int32) _ hG _ _ hP hD hS _ (lv_sub hl [] rfl)
  · have hG := zf hG hc
    refine lv_iconst (v := (1 : Int32)) hx hb d_W_fieldsHold_130 (by decide) ?_
    refine lv_goto (tgt := 135) hx hb d_W_fieldsHold_131 (by decide) ?_
    exact k_W_fieldsHold_135 X hA zz (1 : Int32) _ hG _ _ hP hD hS _ (lv_sub hl [] rfl)
set_option maxRecDepth 100000 in
set_option maxHeartbeats 4000000 in
theorem k_W_fieldsHold_163 {p : Program} {l : Launch} {e : Env} {R : Room} {s : State} {m : MethodId} {args : Array Value} {below : List Frame} {meth : Method} {c : Code} {dC : Nat → ClassId} {dI : Nat → Nat → Nat} {cB cI cL : ClassId} {A : Nat → Prop} (X : zx p s m args meth c R R_W b_W_fieldsHold (some .boolean) 7 0 0) (hA : ∀ q, s.heap.size ≤ q → A q) (zz : zk dC dI cB cI cL A s)  (s0 : Int32) (a : Int32) (hG : g_W_fieldsHold_163 s0 = some a) (H : Heap) (locs : List Loc) (hP : va_P (dC, dI) zcl ([] : va_W) H) (hD : va_D A ([] : va_W)) (hS : va_S A s.heap H locs) (ls : Array Slot) (hl : lv_has ls 7 []) : W p l e R s m args below meth c H locs 0 0 (MQ below (q_W_fieldsHold dC dI cB cI cL A a) args s 0 0 A) (F0 m 163 ls [.int s0]) := by
  obtain ⟨hx, hb, hr, hml, hown, hts, hlocks, hRf, hRl⟩ := id X
  unfold g_W_fieldsHold_163 at hG
  obtain ⟨hnb, hG⟩ := zgd hG
  exact W.zret (v := s0) hx hb hr hnb (fun t9 ht9 hW9 => ⟨⟨s0, (), rfl, Option.some.inj hG, by rw [ht9]; exact hP, hD⟩, hS.F ht9⟩) hS.2.2 d_W_fieldsHold_163
set_option maxRecDepth 100000 in
set_option maxHeartbeats 4000000 in
theorem k_W_fieldsHold_162 {p : Program} {l : Launch} {e : Env} {R : Room} {s : State} {m : MethodId} {args : Array Value} {below : List Frame} {meth : Method} {c : Code} {dC : Nat → ClassId} {dI : Nat → Nat → Nat} {cB cI cL : ClassId} {A : Nat → Prop} (X : zx p s m args meth c R R_W b_W_fieldsHold (some .boolean) 7 0 0) (hA : ∀ q, s.heap.size ≤ q → A q) (zz : zk dC dI cB cI cL A s)  (a : Int32) (hG : g_W_fieldsHold_162  = some a) (H : Heap) (locs : List Loc) (hP : va_P (dC, dI) zcl ([] : va_W) H) (hD : va_D A ([] : va_W)) (hS : va_S A s.heap H locs) (ls : Array Slot) (hl : lv_has ls 7 []) : W p l e R s m args below meth c H locs 0 0 (MQ below (q_W_fieldsHold dC dI cB cI cL A a) args s 0 0 A) (F0 m 162 ls []) := by
  obtain ⟨hx, hb, hr, hml, hown, hts, hlocks, hRf, hRl⟩ := id X
  unfold g_W_fieldsHold_162 at hG
  refine lv_iconst (v := (0 : Int32)) hx hb d_W_fieldsHold_162 (by decide) ?_
  exact k_W_fieldsHold_163 X hA zz (0 : Int32) _ hG _ _ hP hD hS _ (lv_sub hl [] rfl)
set_option maxRecDepth 100000 in
set_option maxHeartbeats 4000000 in
theorem k_W_fieldsHold_164 {p : Program} {l : Launch} {e : Env} {R : Room} {s : State} {m : MethodId} {args : Array Value} {below : List Frame} {meth : Method} {c : Code} {dC : Nat → ClassId} {dI : Nat → Nat → Nat} {cB cI cL : ClassId} {A : Nat → Prop} (X : zx p s m args meth c R R_W b_W_fieldsHold (some .boolean) 7 0 0) (hA : ∀ q, s.heap.size ≤ q → A q) (zz : zk dC dI cB cI cL A s)  (a : Int32) (hG : g_W_fieldsHold_164  = some a) (H : Heap) (locs : List Loc) (hP : va_P (dC, dI) zcl ([] : va_W) H) (hD : va_D A ([] : va_W)) (hS : va_S A s.heap H locs) (ls : Array Slot) (hl : lv_has ls 7 []) : W p l e R s m args below meth c H locs 0 0 (MQ below (q_W_fieldsHold dC dI cB cI cL A a) args s 0 0 A) (F0 m 164 ls []) := by
  obtain ⟨hx, hb, hr, hml, hown, hts, hlocks, hRf, hRl⟩ := id X
  unfold g_W_fieldsHold_164 at hG
  refine lv_iconst (v := (1 : Int32)) hx hb d_W_fieldsHold_164 (by decide) ?_
  exact W.zret (v := (1 : Int32)) hx hb hr (by decide) (fun t9 ht9 hW9 => ⟨⟨(1 : Int32), (), rfl, Option.some.inj hG, by rw [ht9]; exact hP, hD⟩, hS.F ht9⟩) hS.2.2 d_W_fieldsHold_165
set_option maxRecDepth 100000 in
set_option maxHeartbeats 4000000 in
theorem k_W_fieldsHold_0 {p : Program} {l : Launch} {e : Env} {R : Room} {s : State} {m : MethodId} {args : Array Value} {below : List Frame} {meth : Method} {c : Code} {dC : Nat → ClassId} {dI : Nat → Nat → Nat} {cB cI cL : ClassId} {A : Nat → Prop} (X : zx p s m args meth c R R_W b_W_fieldsHold (some .boolean) 7 0 0) (hA : ∀ q, s.heap.size ≤ q → A q) (zz : zk dC dI cB cI cL A s)  (v0 : Int32) (v1 : Int64) (v3 : Int64) (v5 : Int64) (a : Int32) (hG : g_W_fieldsHold v0 v1 v3 v5 = some a) (H : Heap) (locs : List Loc) (hP : va_P (dC, dI) zcl ([] : va_W) H) (hD : va_D A ([] : va_W)) (hS : va_S A s.heap H locs) (ls : Array Slot) (hl : lv_has ls 7 [(0, .int v0), (1, .long v1), (3, .long v3), (5, .long v5)]) : W p l e R s m args below meth c H locs 0 0 (MQ below (q_W_fieldsHold dC dI cB cI cL A a) args s 0 0 A) (F0 m 0 ls []) := by
  obtain ⟨hx, hb, hr, hml, hown, hts, hlocks, hRf, hRl⟩ := id X
  unfold g_W_fieldsHold at hG
  refine lv_iload_n hx hb d_W_fieldsHold_0 rfl (lv_at hl 0 rfl) ?_
  by_cases hlo : v0.toInt < 6 ∨ 24 < v0.toInt
  · have hG := zf hG (fun h9 => by rw [h9] at hlo; revert hlo; decide)
    have hG := zf hG (fun h9 => by rw [h9] at hlo; revert hlo; decide)
    have hG := zf hG (fun h9 => by rw [h9] at hlo; revert hlo; decide)
    have hG := zf hG (fun h9 => by rw [h9] at hlo; revert hlo; decide)
    have hG := zf hG (fun h9 => by rw [h9] at hlo; revert hlo; decide)
    have hG := zf hG (fun h9 => by rw [h9] at hlo; revert hlo; decide)
    have hG := zf hG (fun h9 => by rw [h9] at hlo; revert hlo; decide)
    have hG := zf hG (fun h9 => by rw [h9] at hlo; revert hlo; decide)
    refine lv_tableOut (tgt := 164) hx hb d_W_fieldsHold_1 hlo (by decide) ?_
    exact k_W_fieldsHold_164 X hA zz _ hG _ _ hP hD hS _ (lv_sub hl [] rfl)
  obtain ⟨h1, h2⟩ := zlohi hlo
  obtain ⟨j9, hj9, hx9⟩ := zrng (lo := 6) (hi := 24) h1 h2
  have hj9 : j9 < 19 := hj9
  by_cases e9 : j9 = 0
  · subst e9
    have hc : v0 = (6 : Int32) := hx9
    have hG := zt hG hc
    refine lv_tableIn (tgt := 105) hx hb d_W_fieldsHold_1 h1 h2 (by rw [hc]; rfl) (by decide) ?_
    exact k_W_fieldsHold_105 X hA zz v3 v5 _ hG _ _ hP hD hS _ (lv_sub hl [2, 3] rfl)
  by_cases e9 : j9 = 1
  · subst e9
    have hc : v0 = (7 : Int32) := hx9
    have hG := zf hG (by rw [hc]; decide)
    have hG := zt hG hc
    refine lv_tableIn (tgt := 92) hx hb d_W_fieldsHold_1 h1 h2 (by rw [hc]; rfl) (by decide) ?_
    refine lv_lload hx hb d_W_fieldsHold_92 (lv_at hl 3 rfl) ?_
    refine lv_lconst (v := (0 : Int64)) hx hb d_W_fieldsHold_94 (by decide) ?_
    refine W.lcmp hx hb d_W_fieldsHold_95 ?_
    refine lv_if_le (tgt := 103) hx hb d_W_fieldsHold_96 (by decide) (fun hc => ?_) (fun hc => ?_)
    · have hG := zt hG hc
      refine lv_iconst (v := (0 : Int32)) hx hb d_W_fieldsHold_103 (by decide) ?_
      exact k_W_fieldsHold_104 X hA zz (0 : Int32) _ hG _ _ hP hD hS _ (lv_sub hl [] rfl)
    · have hG := zf hG hc
      refine lv_iconst (v := (1 : Int32)) hx hb d_W_fieldsHold_99 (by decide) ?_
      refine lv_goto (tgt := 104) hx hb d_W_fieldsHold_100 (by decide) ?_
      exact k_W_fieldsHold_104 X hA zz (1 : Int32) _ hG _ _ hP hD hS _ (lv_sub hl [] rfl)
  by_cases e9 : j9 = 2
  · subst e9
    have hc : v0 = (8 : Int32) := hx9
    have hG := zf hG (by rw [hc]; decide)
    have hG := zf hG (by rw [hc]; decide)
    have hG := zt hG hc
    refine lv_tableIn (tgt := 105) hx hb d_W_fieldsHold_1 h1 h2 (by rw [hc]; rfl) (by decide) ?_
    exact k_W_fieldsHold_105 X hA zz v3 v5 _ hG _ _ hP hD hS _ (lv_sub hl [2, 3] rfl)
  by_cases e9 : j9 = 3
  · subst e9
    have hc : v0 = (9 : Int32) := hx9
    have hG := zf hG (by rw [hc]; decide)
    have hG := zf hG (by rw [hc]; decide)
    have hG := zf hG (by rw [hc]; decide)
    have hG := zf hG (by rw [hc]; decide)
    have hG := zf hG (by rw [hc]; decide)
    have hG := zf hG (by rw [hc]; decide)
    have hG := zf hG (by rw [hc]; decide)
    have hG := zf hG (by rw [hc]; decide)
    refine lv_tableIn (tgt := 164) hx hb d_W_fieldsHold_1 h1 h2 (by rw [hc]; rfl) (by decide) ?_
    exact k_W_fieldsHold_164 X hA zz _ hG _ _ hP hD hS _ (lv_sub hl [] rfl)
  by_cases e9 : j9 = 4
  · subst e9
    have hc : v0 = (10 : Int32) := hx9
    have hG := zf hG (by rw [hc]; decide)
    have hG := zf hG (by rw [hc]; decide)
    have hG := zf hG (by rw [hc]; decide)
    have hG := zf hG (by rw [hc]; decide)
    have hG := zf hG (by rw [hc]; decide)
    have hG := zf hG (by rw [hc]; decide)
    have hG := zf hG (by rw [hc]; decide)
    have hG := zf hG (by rw [hc]; decide)
    refine lv_tableIn (tgt := 164) hx hb d_W_fieldsHold_1 h1 h2 (by rw [hc]; rfl) (by decide) ?_
    exact k_W_fieldsHold_164 X hA zz _ hG _ _ hP hD hS _ (lv_sub hl [] rfl)
  by_cases e9 : j9 = 5
  · subst e9
    have hc : v0 = (11 : Int32) := hx9
    have hG := zf hG (by rw [hc]; decide)
    have hG := zf hG (by rw [hc]; decide)
    have hG := zf hG (by rw [hc]; decide)
    have hG := zf hG (by rw [hc]; decide)
    have hG := zf hG (by rw [hc]; decide)
    have hG := zf hG (by rw [hc]; decide)
    have hG := zf hG (by rw [hc]; decide)
    have hG := zf hG (by rw [hc]; decide)
    refine lv_tableIn (tgt := 164) hx hb d_W_fieldsHold_1 h1 h2 (by rw [hc]; rfl) (by decide) ?_
    exact k_W_fieldsHold_164 X hA zz _ hG _ _ hP hD hS _ (lv_sub hl [] rfl)
  by_cases e9 : j9 = 6
  · subst e9
    have hc : v0 = (12 : Int32) := hx9
    have hG := zf hG (by rw [hc]; decide)
    have hG := zf hG (by rw [hc]; decide)
    have hG := zf hG (by rw [hc]; decide)
    have hG := zf hG (by rw [hc]; decide)
    have hG := zf hG (by rw [hc]; decide)
    have hG := zf hG (by rw [hc]; decide)
    have hG := zf hG (by rw [hc]; decide)
    have hG := zf hG (by rw [hc]; decide)
    refine lv_tableIn (tgt := 164) hx hb d_W_fieldsHold_1 h1 h2 (by rw [hc]; rfl) (by decide) ?_
    exact k_W_fieldsHold_164 X hA zz _ hG _ _ hP hD hS _ (lv_sub hl [] rfl)
  by_cases e9 : j9 = 7
  · subst e9
    have hc : v0 = (13 : Int32) := hx9
    have hG := zf hG (by rw [hc]; decide)
    have hG := zf hG (by rw [hc]; decide)
    have hG := zf hG (by rw [hc]; decide)
    have hG := zf hG (by rw [hc]; decide)
    have hG := zf hG (by rw [hc]; decide)
    have hG := zf hG (by rw [hc]; decide)
    have hG := zf hG (by rw [hc]; decide)
    have hG := zf hG (by rw [hc]; decide)
    refine lv_tableIn (tgt := 164) hx hb d_W_fieldsHold_1 h1 h2 (by rw [hc]; rfl) (by decide) ?_
    exact k_W_fieldsHold_164 X hA zz _ hG _ _ hP hD hS _ (lv_sub hl [] rfl)
  by_cases e9 : j9 = 8
  · subst e9
    have hc : v0 = (14 : Int32) := hx9
    have hG := zf hG (by rw [hc]; decide)
    have hG := zf hG (by rw [hc]; decide)
    have hG := zf hG (by rw [hc]; decide)
    have hG := zf hG (by rw [hc]; decide)
    have hG := zf hG (by rw [hc]; decide)
    have hG := zf hG (by rw [hc]; decide)
    have hG := zf hG (by rw [hc]; decide)
    have hG := zf hG (by rw [hc]; decide)
    refine lv_tableIn (tgt := 164) hx hb d_W_fieldsHold_1 h1 h2 (by rw [hc]; rfl) (by decide) ?_
    exact k_W_fieldsHold_164 X hA zz _ hG _ _ hP hD hS _ (lv_sub hl [] rfl)
  by_cases e9 : j9 = 9
  · subst e9
    have hc : v0 = (15 : Int32) := hx9
    have hG := zf hG (by rw [hc]; decide)
    have hG := zf hG (by rw [hc]; decide)
    have hG := zf hG (by rw [hc]; decide)
    have hG := zf hG (by rw [hc]; decide)
    have hG := zf hG (by rw [hc]; decide)
    have hG := zf hG (by rw [hc]; decide)
    have hG := zf hG (by rw [hc]; decide)
    have hG := zf hG (by rw [hc]; decide)
    refine lv_tableIn (tgt := 164) hx hb d_W_fieldsHold_1 h1 h2 (by rw [hc]; rfl) (by decide) ?_
    exact k_W_fieldsHold_164 X hA zz _ hG _ _ hP hD hS _ (lv_sub hl [] rfl)
  by_cases e9 : j9 = 10
  · subst e9
    have hc : v0 = (16 : Int32) := hx9
    have hG := zf hG (by rw [hc]; decide)
    have hG := zf hG (by rw [hc]; decide)
    have hG := zf hG (by rw [hc]; decide)
    have hG := zf hG (by rw [hc]; decide)
    have hG := zf hG (by rw [hc]; decide)
    have hG := zf hG (by rw [hc]; decide)
    have hG := zf hG (by rw [hc]; decide)
    have hG := zf hG (by rw [hc]; decide)
    refine lv_tableIn (tgt := 164) hx hb d_W_fieldsHold_1 h1 h2 (by rw [hc]; rfl) (by decide) ?_
    exact k_W_fieldsHold_164 X hA zz _ hG _ _ hP hD hS _ (lv_sub hl [] rfl)
  by_cases e9 : j9 = 11
  · subst e9
    have hc : v0 = (17 : Int32) := hx9
    have hG := zf hG (by rw [hc]; decide)
    have hG := zf hG (by rw [hc]; decide)
    have hG := zf hG (by rw [hc]; decide)
    have hG := zf hG (by rw [hc]; decide)
    have hG := zf hG (by rw [hc]; decide)
    have hG := zf hG (by rw [hc]; decide)
    have hG := zf hG (by rw [hc]; decide)
    have hG := zf hG (by rw [hc]; decide)
    refine lv_tableIn (tgt := 164) hx hb d_W_fieldsHold_1 h1 h2 (by rw [hc]; rfl) (by decide) ?_
    exact k_W_fieldsHold_164 X hA zz _ hG _ _ hP hD hS _ (lv_sub hl [] rfl)
  by_cases e9 : j9 = 12
  · subst e9
    have hc : v0 = (18 : Int32) := hx9
    have hG := zf hG (by rw [hc]; decide)
    have hG := zf hG (by rw [hc]; decide)
    have hG := zf hG (by rw [hc]; decide)
    have hG := zt hG hc
    refine lv_tableIn (tgt := 122) hx hb d_W_fieldsHold_1 h1 h2 (by rw [hc]; rfl) (by decide) ?_
    exact k_W_fieldsHold_122 X hA zz v1 _ hG _ _ hP hD hS _ (lv_sub hl [1] rfl)
  by_cases e9 : j9 = 13
  · subst e9
    have hc : v0 = (19 : Int32) := hx9
    have hG := zf hG (by rw [hc]; decide)
    have hG := zf hG (by rw [hc]; decide)
    have hG := zf hG (by rw [hc]; decide)
    have hG := zf hG (by rw [hc]; decide)
    have hG := zt hG hc
    refine lv_tableIn (tgt := 122) hx hb d_W_fieldsHold_1 h1 h2 (by rw [hc]; rfl) (by decide) ?_
    exact k_W_fieldsHold_122 X hA zz v1 _ hG _ _ hP hD hS _ (lv_sub hl [1] rfl)
  by_cases e9 : j9 = 14
  · subst e9
    have hc : v0 = (20 : Int32) := hx9
    have hG := zf hG (by rw [hc]; decide)
    have hG := zf hG (by rw [hc]; decide)
    have hG := zf hG (by rw [hc]; decide)
    have hG := zf hG (by rw [hc]; decide)
    have hG := zf hG (by rw [hc]; decide)
    have hG := zf hG (by rw [hc]; decide)
    have hG := zf hG (by rw [hc]; decide)
    have hG := zf hG (by rw [hc]; decide)
    refine lv_tableIn (tgt := 164) hx hb d_W_fieldsHold_1 h1 h2 (by rw [hc]; rfl) (by decide) ?_
    exact k_W_fieldsHold_164 X hA zz _ hG _ _ hP hD hS _ (lv_sub hl [] rfl)
  by_cases e9 : j9 = 15
  · subst e9
    have hc : v0 = (21 : Int32) := hx9
    have hG := zf hG (by rw [hc]; decide)
    have hG := zf hG (by rw [hc]; decide)
    have hG := zf hG (by rw [hc]; decide)
    have hG := zf hG (by rw [hc]; decide)
    have hG := zf hG (by rw [hc]; decide)
    have hG := zf hG (by rw [hc]; decide)
    have hG := zf hG (by rw [hc]; decide)
    have hG := zf hG (by rw [hc]; decide)
    refine lv_tableIn (tgt := 164) hx hb d_W_fieldsHold_1 h1 h2 (by rw [hc]; rfl) (by decide) ?_
    exact k_W_fieldsHold_164 X hA zz _ hG _ _ hP hD hS _ (lv_sub hl [] rfl)
  by_cases e9 : j9 = 16
  · subst e9
    have hc : v0 = (22 : Int32) := hx9
    have hG := zf hG (by rw [hc]; decide)
    have hG := zf hG (by rw [hc]; decide)
    have hG := zf hG (by rw [hc]; decide)
    have hG := zf hG (by rw [hc]; decide)
    have hG := zf hG (by rw [hc]; decide)
    have hG := zt hG hc
    refine lv_tableIn (tgt := 122) hx hb d_W_fieldsHold_1 h1 h2 (by rw [hc]; rfl) (by decide) ?_
    exact k_W_fieldsHold_122 X hA zz v1 _ hG _ _ hP hD hS _ (lv_sub hl [1] rfl)
  by_cases e9 : j9 = 17
  · subst e9
    have hc : v0 = (23 : Int32) := hx9
    have hG := zf hG (by rw [hc]; decide)
    have hG := zf hG (by rw [hc]; decide)
    have hG := zf hG (by rw [hc]; decide)
    have hG := zf hG (by rw [hc]; decide)
    have hG := zf hG (by rw [hc]; decide)
    have hG := zf hG (by rw [hc]; decide)
    have hG := zt hG hc
    refine lv_tableIn (tgt := 122) hx hb d_W_fieldsHold_1 h1 h2 (by rw [hc]; rfl) (by decide) ?_
    exact k_W_fieldsHold_122 X hA zz v1 _ hG _ _ hP hD hS _ (lv_sub hl [1] rfl)
  by_cases e9 : j9 = 18
  · subst e9
    have hc : v0 = (24 : Int32) := hx9
    have hG := zf hG (by rw [hc]; decide)
    have hG := zf hG (by rw [hc]; decide)
    have hG := zf hG (by rw [hc]; decide)
    have hG := zf hG (by rw [hc]; decide)
    have hG := zf hG (by rw [hc]; decide)
    have hG := zf hG (by rw [hc]; decide)
    have hG := zf hG (by rw [hc]; decide)
    have hG := zt hG hc
    refine lv_tableIn (tgt := 136) hx hb d_W_fieldsHold_1 h1 h2 (by rw [hc]; rfl) (by decide) ?_
    refine lv_lload_n hx hb d_W_fieldsHold_136 rfl (lv_at hl 2 rfl) ?_
    refine lv_lload_n hx hb d_W_fieldsHold_137 rfl (lv_at hl 1 rfl) ?_
    refine W.lcmp hx hb d_W_fieldsHold_138 ?_
    refine lv_if_gt (tgt := 162) hx hb d_W_fieldsHold_139 (by decide) (fun hc => ?_) (fun hc => ?_)
    · have hG := zt hG hc
      exact k_W_fieldsHold_162 X hA zz _ hG _ _ hP hD hS _ (lv_sub hl [] rfl)
    · have hG := zf hG hc
      refine lv_lload hx hb d_W_fieldsHold_142 (lv_at hl 3 rfl) ?_
      refine lv_lconst (v := (1 : Int64)) hx hb d_W_fieldsHold_144 (by decide) ?_
      refine W.lcmp hx hb d_W_fieldsHold_145 ?_
      refine lv_if_lt (tgt := 162) hx hb d_W_fieldsHold_146 (by decide) (fun hc => ?_) (fun hc => ?_)
      · have hG := zt hG hc
        exact k_W_fieldsHold_162 X hA zz _ hG _ _ hP hD hS _ (lv_sub hl [] rfl)
      · have hG := zf hG hc
        refine lv_lload hx hb d_W_fieldsHold_149 (lv_at hl 3 rfl) ?_
        refine lv_ldc2 (v := (20 : Int64)) hx hb hown (hts (.constantLong R_W 327 (20 : Int64)) zin_W_327) d_W_fieldsHold_151 ?_
        refine W.lcmp hx hb d_W_fieldsHold_154 ?_
        refine lv_if_gt (tgt := 162) hx hb d_W_fieldsHold_155 (by decide) (fun hc => ?_) (fun hc => ?_)
        · have hG := zt hG hc
          exact k_W_fieldsHold_162 X hA zz _ hG _ _ hP hD hS _ (lv_sub hl [] rfl)
        · have hG := zf hG hc
          refine lv_iconst (v := (1 : Int32)) hx hb d_W_fieldsHold_158 (by decide) ?_
          refine lv_goto (tgt := 163) hx hb d_W_fieldsHold_159 (by decide) ?_
          exact k_W_fieldsHold_163 X hA zz (1 : Int32) _ hG _ _ hP hD hS _ (lv_sub hl [] rfl)
  exact absurd hj9 (by omega)
set_option maxRecDepth 100000 in
set_option maxHeartbeats 4000000 in
theorem c_W_fieldsHold (l : Launch) (dC : Nat → ClassId) (dI : Nat → Nat → Nat) (cB cI cL : ClassId) (sz : Nat) (v0 : Int32) (v1 : Int64) (v3 : Int64) (v5 : Int64) (a : Int32) (hG : g_W_fieldsHold v0 v1 v3 v5 = some a) : Met l y_W_fieldsHold (zw y_W_fieldsHold b_W_fieldsHold 7 (some .boolean)) ({ frames := 0, cells := 0, slots := 0, locals := 0 }) (va_Pc [.int v0, .long v1, .long v3, .long v5] (zpre dC dI cB cI cL sz ([] : va_W))) (q_W_fieldsHold dC dI cB cI cL (va_A ([] : va_W) sz) a) 0 0 (va_A ([] : va_W) sz) := by
  refine Met.ofW (cc := b_W_fieldsHold) (maxL := 7) (ret := (some .boolean)) (by decide) rfl ?_
  intro p e s m args below meth c s₁ B hml hv
  obtain ⟨rfl, hsz, hP, zz, hD0⟩ := hv
  subst hsz
  have X := zx_of (F := 0) (L := 0) B hml (Nat.le_refl _) (Nat.le_refl _)
  have hD := hD0.self (sz := s.heap.size)
  have hA : ∀ q : Nat, s.heap.size ≤ q → va_A ([] : va_W) s.heap.size q := fun q h => Or.inr h
  have hl := lv_entry ([.int v0, .long v1, .long v3, .long v5]) (n := 7) (Nat.le_of_ble_eq_true rfl)
  rw [lg_entry_eq]
  generalize (lg_sl ([.int v0, .long v1, .long v3, .long v5]) ++ List.replicate (7 - (lg_sl ([.int v0, .long v1, .long v3, .long v5])).length) Slot.unset).toArray = ls at hl ⊢
  exact k_W_fieldsHold_0 X hA zz v0 v1 v3 v5 a hG _ _ hP hD va_S.rf ls hl
noncomputable def g_D_append_63 (N : Nat) (sD : zD) : Option (zD) := some (sD)
noncomputable def g_D_append_w54 (kr : zD → Int64 → Int32 → Option (zD)) (v1 : Int64) (v4 : Int32) (sD_54 : zD) : Option (zD) := kr sD_54 v1 (v4 + (-1))
noncomputable def g_D_append_w46 (kr : zD → Int64 → Int32 → Option (zD)) (v1 : Int64) (v4 : Int32) (sD_46 : zD) : Option (zD) := g_D_append_w54 kr v1 v4 (zD_length' sD_46 ((zD_length sD_46) + (1 : Int32)))
noncomputable def g_D_append_5_b (N : Nat) (kr : zD → Int64 → Int32 → Option (zD)) (sD : zD) (v1 : Int64) (v4 : Int32) : Option (zD) := if v4 < (0 : Int32) then (g_D_append_63 N sD) else (if (zD_length sD) < (0 : Int32) then (g_D_append_63 N sD) else (if (2000 : Int32) ≤ (zD_length sD) then (g_D_append_63 N sD) else (zg (vp_in (zD_length sD) 2000) (g_D_append_w46 kr v1 v4 (zD_bytes' sD (upd (zD_bytes sD) ((zD_length sD).toNatClampNeg) (vp_nar .byte (((v1 >>> (((8 : Int32) * v4).toInt64 &&& 63)).toInt32).toInt8.toInt32))))))))
noncomputable def g_D_append_5 (N : Nat) : Nat → zD → Int64 → Int32 → Option (zD)
  | 0 => fun _ _ _ => none
  | k + 1 => fun sD v1 v4 => g_D_append_5_b N (g_D_append_5 N k) sD v1 v4
noncomputable def g_D_append (N : Nat) (sD : zD) (v1 : Int64) (v3 : Int32) : Option (zD) := g_D_append_5 N N sD v1 (v3 - (1 : Int32))
def q_D_append (dC : Nat → ClassId) (dI : Nat → Nat → Nat) (cB cI cL : ClassId) (A : Nat → Prop) (adD : Nat) (adD_parts : Nat) (adD_bytes : Nat) (adD_lows : Nat) (adD_highs : Nat) (a : zD) : Array Value → State → Outcome → State → Prop := va_Qv (fun (u : zD) => (u) = a) (fun u U => va_P (dC, dI) zcl (zwD adD adD_parts adD_bytes adD_lows adD_highs cB cI cL u) U.heap ∧ va_D A (zwD adD adD_parts adD_bytes adD_lows adD_highs cB cI cL u)) A
set_option maxRecDepth 100000 in
set_option maxHeartbeats 4000000 in
theorem k_D_append_63 {p : Program} {l : Launch} {e : Env} {R : Room} {s : State} {m : MethodId} {args : Array Value} {below : List Frame} {meth : Method} {c : Code} {dC : Nat → ClassId} {dI : Nat → Nat → Nat} {cB cI cL : ClassId} {A : Nat → Prop} (X : zx p s m args meth c R R_D b_D_append none 5 0 0) (hA : ∀ q, s.heap.size ≤ q → A q) (zz : zk dC dI cB cI cL A s)  (N : Nat) (sD : zD) (a : zD) (hG : g_D_append_63 N sD = some a) (adD adD_parts adD_bytes adD_lows adD_highs : Nat) (H : Heap) (locs : List Loc) (hP : va_P (dC, dI) zcl (zwD adD adD_parts adD_bytes adD_lows adD_highs cB cI cL sD) H) (hD : va_D A (zwD adD adD_parts adD_bytes adD_lows adD_highs cB cI cL sD)) (hS : va_S A s.heap H locs) (ls : Array Slot) (hl : lv_has ls 5 []) : W p l e R s m args below meth c H locs 0 0 (MQ below (q_D_append dC dI cB cI cL A adD adD_parts adD_bytes adD_lows adD_highs a) args s 0 0 A) (F0 m 63 ls []) := by
  obtain ⟨hx, hb, hr, hml, hown, hts, hlocks, hRf, hRl⟩ := id X
  unfold g_D_append_63 at hG
  exact W.vret hx hb hr (fun t9 ht9 hW9 => ⟨⟨(sD), rfl, Option.some.inj hG, by rw [ht9]; exact hP, hD⟩, hS.F ht9⟩) hS.2.2 d_D_append_63
set_option maxRecDepth 100000 in
set_option maxHeartbeats 4000000 in
theorem k_D_append_5_b {p : Program} {l : Launch} {e : Env} {R : Room} {s : State} {m : MethodId} {args : Array Value} {below : List Frame} {meth : Method} {c : Code} {dC : Nat → ClassId} {dI : Nat → Nat → Nat} {cB cI cL : ClassId} {A : Nat → Prop} (kr : zD → Int64 → Int32 → Option (zD)) (hrec : ∀ (sD : zD) (v1 : Int64) (v4 : Int32) (a : zD), kr sD v1 v4 = some a → ∀ (adD adD_parts adD_bytes adD_lows adD_highs : Nat) (H : Heap) (locs : List Loc), va_P (dC, dI) zcl (zwD adD adD_parts adD_bytes adD_lows adD_highs cB cI cL sD) H → va_D A (zwD adD adD_parts adD_bytes adD_lows adD_highs cB cI cL sD) → va_S A s.heap H locs → ∀ ls : Array Slot, lv_has ls 5 [(0, .ref adD), (1, .long v1), (4, .int v4)] → W p l e R s m args below meth c H locs 0 0 (MQ below (q_D_append dC dI cB cI cL A adD adD_parts adD_bytes adD_lows adD_highs a) args s 0 0 A) (F0 m 5 ls [])) (X : zx p s m args meth c R R_D b_D_append none 5 0 0) (hA : ∀ q, s.heap.size ≤ q → A q) (zz : zk dC dI cB cI cL A s)  (N : Nat) (sD : zD) (v1 : Int64) (v4 : Int32) (a : zD) (hG : g_D_append_5_b N kr sD v1 v4 = some a) (adD adD_parts adD_bytes adD_lows adD_highs : Nat) (H : Heap) (locs : List Loc) (hP : va_P (dC, dI) zcl (zwD adD adD_parts adD_bytes adD_lows adD_highs cB cI cL sD) H) (hD : va_D A (zwD adD adD_parts adD_bytes adD_lows adD_highs cB cI cL sD)) (hS : va_S A s.heap H locs) (ls : Array Slot) (hl : lv_has ls 5 [(0, .ref adD), (1, .long v1), (4, .int v4)]) : W p l e R s m args below meth c H locs 0 0 (MQ below (q_D_append dC dI cB cI cL A adD adD_parts adD_bytes adD_lows adD_highs a) args s 0 0 A) (F0 m 5 ls []) := by
  obtain ⟨hx, hb, hr, hml, hown, hts, hlocks, hRf, hRl⟩ := id X
  unfold g_D_append_5_b at hG
  refine lv_iload hx hb d_D_append_5 (lv_at hl 2 rfl) ?_
  refine lv_if_lt (tgt := 63) hx hb d_D_append_7 (by decide) (fun hc => ?_) (fun hc => ?_)
  · have hG := zt hG hc
    exact k_D_append_63 X hA zz N sD _ hG adD adD_parts adD_bytes adD_lows adD_highs _ _ hP hD hS _ (lv_sub hl [] rfl)
  · have hG := zf hG hc
    refine lv_aload_n hx hb d_D_append_10 rfl (lv_at hl 0 rfl) ?_
    refine va_get (D := (dC, dI)) (ci := 6) (v := .int (zD_length sD)) (C := R_D) (T := F_D) (N := 6) hx hb hts zi_D hown zz.1 hP 0 rfl rfl 4 (by decide) (hts (.fieldLink R_D 31 "WireCodec$Draft" "length" "I") zin_D_31) (fun _ h9 => h9) rfl d_D_append_11 ?_
    refine lv_if_lt (tgt := 63) hx hb d_D_append_14 (by decide) (fun hc => ?_) (fun hc => ?_)
    · have hG := zt hG hc
      exact k_D_append_63 X hA zz N sD _ hG adD adD_parts adD_bytes adD_lows adD_highs _ _ hP hD hS _ (lv_sub hl [] rfl)
    · have hG := zf hG hc
      refine lv_aload_n hx hb d_D_append_17 rfl (lv_at hl 0 rfl) ?_
      refine va_get (D := (dC, dI)) (ci := 6) (v := .int (zD_length sD)) (C := R_D) (T := F_D) (N := 6) hx hb hts zi_D hown zz.1 hP 0 rfl rfl 4 (by decide) (hts (.fieldLink R_D 31 "WireCodec$Draft" "length" "I") zin_D_31) (fun _ h9 => h9) rfl d_D_append_18 ?_
      refine lv_aload_n hx hb d_D_append_21 rfl (lv_at hl 0 rfl) ?_
      refine va_get (D := (dC, dI)) (ci := 6) (v := .ref adD_bytes) (C := R_D) (T := F_D) (N := 6) hx hb hts zi_D hown zz.1 hP 0 rfl rfl 1 (by decide) (hts (.fieldLink R_D 15 "WireCodec$Draft" "bytes" "[B") zin_D_15) (fun _ h9 => h9) rfl d_D_append_22 ?_
      refine va_alen (v := (2000 : Int32)) hx hb zz.1 hP 2 0 rfl rfl rfl d_D_append_25 ?_
      refine lv_icmp_ge (tgt := 63) hx hb d_D_append_26 (by decide) (fun hc => ?_) (fun hc => ?_)
      · have hG := zt hG hc
        exact k_D_append_63 X hA zz N sD _ hG adD adD_parts adD_bytes adD_lows adD_highs _ _ hP hD hS _ (lv_sub hl [] rfl)
      · have hG := zf hG hc
        refine lv_aload_n hx hb d_D_append_29 rfl (lv_at hl 0 rfl) ?_
        refine va_get (D := (dC, dI)) (ci := 6) (v := .ref adD_bytes) (C := R_D) (T := F_D) (N := 6) hx hb hts zi_D hown zz.1 hP 0 rfl rfl 1 (by decide) (hts (.fieldLink R_D 15 "WireCodec$Draft" "bytes" "[B") zin_D_15) (fun _ h9 => h9) rfl d_D_append_30 ?_
        refine lv_aload_n hx hb d_D_append_33 rfl (lv_at hl 0 rfl) ?_
        refine va_get (D := (dC, dI)) (ci := 6) (v := .int (zD_length sD)) (C := R_D) (T := F_D) (N := 6) hx hb hts zi_D hown zz.1 hP 0 rfl rfl 4 (by decide) (hts (.fieldLink R_D 31 "WireCodec$Draft" "length" "I") zin_D_31) (fun _ h9 => h9) rfl d_D_append_34 ?_
        refine lv_lload_n hx hb d_D_append_37 rfl (lv_at hl 1 rfl) ?_
        refine lv_bipush (v := (8 : Int32)) hx hb d_D_append_38 (by decide) ?_
        refine lv_iload hx hb d_D_append_40 (lv_at hl 2 rfl) ?_
        refine lv_imul hx hb d_D_append_42 ?_
        refine lv_lshr hx hb d_D_append_43 rfl ?_
        refine lv_l2i hx hb d_D_append_44 rfl ?_
        refine lv_i2b hx hb d_D_append_45 rfl ?_
        obtain ⟨hin, hG⟩ := zgd hG
        refine va_bast hx hb zz.1 hP hD hS 2 0 rfl rfl hin d_D_append_46 (fun H locs hP hD hS => ?_)
        have hP : va_P (dC, dI) zcl (zwD adD adD_parts adD_bytes adD_lows adD_highs cB cI cL (zD_bytes' sD (upd (zD_bytes sD) ((zD_length sD).toNatClampNeg) (vp_nar .byte (((v1 >>> (((8 : Int32) * v4).toInt64 &&& 63)).toInt32).toInt8.toInt32))))) H := hP
        have hD : va_D A (zwD adD adD_parts adD_bytes adD_lows adD_highs cB cI cL (zD_bytes' sD (upd (zD_bytes sD) ((zD_length sD).toNatClampNeg) (vp_nar .byte (((v1 >>> (((8 : Int32) * v4).toInt64 &&& 63)).toInt32).toInt8.toInt32))))) := hD
        have hG : g_D_append_w46 kr v1 v4 (zD_bytes' sD (upd (zD_bytes sD) ((zD_length sD).toNatClampNeg) (vp_nar .byte (((v1 >>> (((8 : Int32) * v4).toInt64 &&& 63)).toInt32).toInt8.toInt32)))) = some a := hG
        generalize zD_bytes' sD (upd (zD_bytes sD) ((zD_length sD).toNatClampNeg) (vp_nar .byte (((v1 >>> (((8 : Int32) * v4).toInt64 &&& 63)).toInt32).toInt8.toInt32))) = sD_46 at hP hD hG
        unfold g_D_append_w46 at hG
        refine lv_aload_n hx hb d_D_append_47 rfl (lv_at hl 0 rfl) ?_
        refine lv_dup hx hb d_D_append_48 rfl ?_
        refine va_get (D := (dC, dI)) (ci := 6) (v := .int (zD_length sD_46)) (C := R_D) (T := F_D) (N := 6) hx hb hts zi_D hown zz.1 hP 0 rfl rfl 4 (by decide) (hts (.fieldLink R_D 31 "WireCodec$Draft" "length" "I") zin_D_31) (fun _ h9 => h9) rfl d_D_append_49 ?_
        refine lv_iconst (v := (1 : Int32)) hx hb d_D_append_52 (by decide) ?_
        refine lv_iadd hx hb d_D_append_53 ?_
        refine va_put (D := (dC, dI)) (ci := 6) (v := .int ((zD_length sD_46) + (1 : Int32))) (ty := .int) (C := R_D) (T := F_D) (N := 6) hx hb hts zi_D zty_D zty_D_ok znm_D hown zz.1 hP hD hS 0 rfl rfl 4 (by decide) (hts (.fieldLink R_D 31 "WireCodec$Draft" "length" "I") zin_D_31) (fun _ h9 => h9) rfl (by decide +kernel) rfl rfl (Nat.le_of_ble_eq_true rfl) d_D_append_54 (fun H locs hP hD hS => ?_)
        have hP : va_P (dC, dI) zcl (zwD adD adD_parts adD_bytes adD_lows adD_highs cB cI cL (zD_length' sD_46 ((zD_length sD_46) + (1 : Int32)))) H := hP
        have hD : va_D A (zwD adD adD_parts adD_bytes adD_lows adD_highs cB cI cL (zD_length' sD_46 ((zD_length sD_46) + (1 : Int32)))) := hD
        have hG : g_D_append_w54 kr v1 v4 (zD_length' sD_46 ((zD_length sD_46) + (1 : Int32))) = some a := hG
        generalize zD_length' sD_46 ((zD_length sD_46) + (1 : Int32)) = sD_54 at hP hD hG
        unfold g_D_append_w54 at hG
        refine lv_iinc (v := v4 + (-1)) (lv' := [(4, .int (v4 + (-1))), (0, .ref adD), (1, .long v1)]) hx hb d_D_append_57 hl (k := 2) rfl rfl (by decide) rfl (fun ls hl => ?_)
        refine lv_goto (tgt := 5) hx hb d_D_append_60 (by decide) ?_
        exact hrec sD_54 v1 (v4 + (-1)) _ hG adD adD_parts adD_bytes adD_lows adD_highs _ _ hP hD hS _ (lv_sub hl [1, 2, 0] rfl)
theorem k_D_append_5 {p : Program} {l : Launch} {e : Env} {R : Room} {s : State} {m : MethodId} {args : Array Value} {below : List Frame} {meth : Method} {c : Code} {dC : Nat → ClassId} {dI : Nat → Nat → Nat} {cB cI cL : ClassId} {A : Nat → Prop} (X : zx p s m args meth c R R_D b_D_append none 5 0 0) (hA : ∀ q, s.heap.size ≤ q → A q) (zz : zk dC dI cB cI cL A s)  (N : Nat) : ∀ (k : Nat) (sD : zD) (v1 : Int64) (v4 : Int32) (a : zD) (hG : g_D_append_5 N k sD v1 v4 = some a) (adD adD_parts adD_bytes adD_lows adD_highs : Nat) (H : Heap) (locs : List Loc) (hP : va_P (dC, dI) zcl (zwD adD adD_parts adD_bytes adD_lows adD_highs cB cI cL sD) H) (hD : va_D A (zwD adD adD_parts adD_bytes adD_lows adD_highs cB cI cL sD)) (hS : va_S A s.heap H locs) (ls : Array Slot) (hl : lv_has ls 5 [(0, .ref adD), (1, .long v1), (4, .int v4)]), W p l e R s m args below meth c H locs 0 0 (MQ below (q_D_append dC dI cB cI cL A adD adD_parts adD_bytes adD_lows adD_highs a) args s 0 0 A) (F0 m 5 ls []) := by
  intro k
  induction k with
  | zero => intro sD v1 v4 a hG; exact absurd hG (by unfold g_D_append_5; simp)
  | succ k ih => intro sD v1 v4 a hG adD adD_parts adD_bytes adD_lows adD_highs H locs hP hD hS ls hl; exact k_D_append_5_b _ ih X hA zz N sD v1 v4 a hG adD adD_parts adD_bytes adD_lows adD_highs H locs hP hD hS ls hl
set_option maxRecDepth 100000 in
set_option maxHeartbeats 4000000 in
theorem k_D_append_0 {p : Program} {l : Launch} {e : Env} {R : Room} {s : State} {m : MethodId} {args : Array Value} {below : List Frame} {meth : Method} {c : Code} {dC : Nat → ClassId} {dI : Nat → Nat → Nat} {cB cI cL : ClassId} {A : Nat → Prop} (X : zx p s m args meth c R R_D b_D_append none 5 0 0) (hA : ∀ q, s.heap.size ≤ q → A q) (zz : zk dC dI cB cI cL A s)  (N : Nat) (sD : zD) (v1 : Int64) (v3 : Int32) (a : zD) (hG : g_D_append N sD v1 v3 = some a) (adD adD_parts adD_bytes adD_lows adD_highs : Nat) (H : Heap) (locs : List Loc) (hP : va_P (dC, dI) zcl (zwD adD adD_parts adD_bytes adD_lows adD_highs cB cI cL sD) H) (hD : va_D A (zwD adD adD_parts adD_bytes adD_lows adD_highs cB cI cL sD)) (hS : va_S A s.heap H locs) (ls : Array Slot) (hl : lv_has ls 5 [(0, .ref adD), (1, .long v1), (3, .int v3)]) : W p l e R s m args below meth c H locs 0 0 (MQ below (q_D_append dC dI cB cI cL A adD adD_parts adD_bytes adD_lows adD_highs a) args s 0 0 A) (F0 m 0 ls []) := by
  obtain ⟨hx, hb, hr, hml, hown, hts, hlocks, hRf, hRl⟩ := id X
  unfold g_D_append at hG
  refine lv_iload_n hx hb d_D_append_0 rfl (lv_at hl 2 rfl) ?_
  refine lv_iconst (v := (1 : Int32)) hx hb d_D_append_1 (by decide) ?_
  refine lv_isub hx hb d_D_append_2 ?_
  refine lv_istore (lv' := [(4, .int (v3 - (1 : Int32))), (0, .ref adD), (1, .long v1), (3, .int v3)]) hx hb d_D_append_3 hl (by decide) rfl (fun ls hl => ?_)
  exact k_D_append_5 X hA zz N N sD v1 (v3 - (1 : Int32)) _ hG adD adD_parts adD_bytes adD_lows adD_highs _ _ hP hD hS _ (lv_sub hl [1, 2, 0] rfl)
set_option maxRecDepth 100000 in
set_option maxHeartbeats 4000000 in
theorem c_D_append (l : Launch) (dC : Nat → ClassId) (dI : Nat → Nat → Nat) (cB cI cL : ClassId) (sz : Nat) (adD adD_parts adD_bytes adD_lows adD_highs : Nat) (N : Nat) (sD : zD) (v1 : Int64) (v3 : Int32) (a : zD) (hG : g_D_append N sD v1 v3 = some a) : Met l y_D_append (zw y_D_append b_D_append 5 none) ({ frames := 0, cells := 0, slots := 0, locals := 0 }) (va_Pc [.ref adD, .long v1, .int v3] (zpre dC dI cB cI cL sz (zwD adD adD_parts adD_bytes adD_lows adD_highs cB cI cL sD))) (q_D_append dC dI cB cI cL (va_A (zwD adD adD_parts adD_bytes adD_lows adD_highs cB cI cL sD) sz) adD adD_parts adD_bytes adD_lows adD_highs a) 0 0 (va_A (zwD adD adD_parts adD_bytes adD_lows adD_highs cB cI cL sD) sz) := by
  refine Met.ofW (cc := b_D_append) (maxL := 5) (ret := none) (by decide) rfl ?_
  intro p e s m args below meth c s₁ B hml hv
  obtain ⟨rfl, hsz, hP, zz, hD0⟩ := hv
  subst hsz
  have X := zx_of (F := 0) (L := 0) B hml (Nat.le_refl _) (Nat.le_refl _)
  have hD := hD0.self (sz := s.heap.size)
  have hA : ∀ q : Nat, s.heap.size ≤ q → va_A (zwD adD adD_parts adD_bytes adD_lows adD_highs cB cI cL sD) s.heap.size q := fun q h => Or.inr h
  have hl := lv_entry ([.ref adD, .long v1, .int v3]) (n := 5) (Nat.le_of_ble_eq_true rfl)
  rw [lg_entry_eq]
  generalize (lg_sl ([.ref adD, .long v1, .int v3]) ++ List.replicate (5 - (lg_sl ([.ref adD, .long v1, .int v3])).length) Slot.unset).toArray = ls at hl ⊢
  exact k_D_append_0 X hA zz N sD v1 v3 a hG adD adD_parts adD_bytes adD_lows adD_highs _ _ hP hD va_S.rf ls hl
noncomputable def g_D_isBelowRanges_40 (sD : zD) (s0 : Int32) : Option (Int32) := zg (narrow .boolean (.int s0) = .int s0) (some (s0))
noncomputable def g_D_isBelowRanges_35 (sD : zD) : Option (Int32) := g_D_isBelowRanges_40 sD (1 : Int32)
noncomputable def g_D_isBelowRanges (sD : zD) (v1 : Int64) : Option (Int32) := if ((zD_ranges sD) - (1 : Int32)) < (0 : Int32) then (g_D_isBelowRanges_35 sD) else (if (500 : Int32) ≤ ((zD_ranges sD) - (1 : Int32)) then (g_D_isBelowRanges_35 sD) else (zg (vp_in ((zD_ranges sD) - (1 : Int32)) 500) (if (0 : Int32) < (lg_cmp v1 (((zD_lows sD) ((zD_ranges sD) - (1 : Int32)).toNatClampNeg) - (2 : Int64))) then (g_D_isBelowRanges_40 sD (0 : Int32)) else (g_D_isBelowRanges_35 sD))))
def q_D_isBelowRanges (dC : Nat → ClassId) (dI : Nat → Nat → Nat) (cB cI cL : ClassId) (A : Nat → Prop) (adD : Nat) (adD_parts : Nat) (adD_bytes : Nat) (adD_lows : Nat) (adD_highs : Nat) (sD : zD) (a : Int32) : Array Value → State → Outcome → State → Prop := va_Qi (fun (r : Int32) (u : Unit) => (r) = a) (fun u U => va_P (dC, dI) zcl (zwD adD adD_parts adD_bytes adD_lows adD_highs cB cI cL sD) U.heap ∧ va_D A (zwD adD adD_parts adD_bytes adD_lows adD_highs cB cI cL sD)) A
set_option maxRecDepth 100000 in
set_option maxHeartbeats 4000000 in
theorem k_D_isBelowRanges_40 {p : Program} {l : Launch} {e : Env} {R : Room} {s : State} {m : MethodId} {args : Array Value} {below : List Frame} {meth : Method} {c : Code} {dC : Nat → ClassId} {dI : Nat → Nat → Nat} {cB cI cL : ClassId} {A : Nat → Prop} (X : zx p s m args meth c R R_D b_D_isBelowRanges (some .boolean) 4 0 0) (hA : ∀ q, s.heap.size ≤ q → A q) (zz : zk dC dI cB cI cL A s)  (sD : zD) (s0 : Int32) (a : Int32) (hG : g_D_isBelowRanges_40 sD s0 = some a) (adD adD_parts adD_bytes adD_lows adD_highs : Nat) (H : Heap) (locs : List Loc) (hP : va_P (dC, dI) zcl (zwD adD adD_parts adD_bytes adD_lows adD_highs cB cI cL sD) H) (hD : va_D A (zwD adD adD_parts adD_bytes adD_lows adD_highs cB cI cL sD)) (hS : va_S A s.heap H locs) (ls : Array Slot) (hl : lv_has ls 4 []) : W p l e R s m args below meth c H locs 0 0 (MQ below (q_D_isBelowRanges dC dI cB cI cL A adD adD_parts adD_bytes adD_lows adD_highs sD a) args s 0 0 A) (F0 m 40 ls [.int s0]) := by
  obtain ⟨hx, hb, hr, hml, hown, hts, hlocks, hRf, hRl⟩ := id X
  unfold g_D_isBelowRanges_40 at hG
  obtain ⟨hnb, hG⟩ := zgd hG
  exact W.zret (v := s0) hx hb hr hnb (fun t9 ht9 hW9 => ⟨⟨s0, (), rfl, Option.some.inj hG, by rw [ht9]; exact hP, hD⟩, hS.F ht9⟩) hS.2.2 d_D_isBelowRanges_40
set_option maxRecDepth 100000 in
set_option maxHeartbeats 4000000 in
theorem k_D_isBelowRanges_35 {p : Program} {l : Launch} {e : Env} {R : Room} {s : State} {m : MethodId} {args : Array Value} {below : List Frame} {meth : Method} {c : Code} {dC : Nat → ClassId} {dI : Nat → Nat → Nat} {cB cI cL : ClassId} {A : Nat → Prop} (X : zx p s m args meth c R R_D b_D_isBelowRanges (some .boolean) 4 0 0) (hA : ∀ q, s.heap.size ≤ q → A q) (zz : zk dC dI cB cI cL A s)  (sD : zD) (a : Int32) (hG : g_D_isBelowRanges_35 sD = some a) (adD adD_parts adD_bytes adD_lows adD_highs : Nat) (H : Heap) (locs : List Loc) (hP : va_P (dC, dI) zcl (zwD adD adD_parts adD_bytes adD_lows adD_highs cB cI cL sD) H) (hD : va_D A (zwD adD adD_parts adD_bytes adD_lows adD_highs cB cI cL sD)) (hS : va_S A s.heap H locs) (ls : Array Slot) (hl : lv_has ls 4 []) : W p l e R s m args below meth c H locs 0 0 (MQ below (q_D_isBelowRanges dC dI cB cI cL A adD adD_parts adD_bytes adD_lows adD_highs sD a) args s 0 0 A) (F0 m 35 ls []) := by
  obtain ⟨hx, hb, hr, hml, hown, hts, hlocks, hRf, hRl⟩ := id X
  unfold g_D_isBelowRanges_35 at hG
  refine lv_iconst (v := (1 : Int32)) hx hb d_D_isBelowRanges_35 (by decide) ?_
  refine lv_goto (tgt := 40) hx hb d_D_isBelowRanges_36 (by decide) ?_
  exact k_D_isBelowRanges_40 X hA zz sD (1 : Int32) _ hG adD adD_parts adD_bytes adD_lows adD_highs _ _ hP hD hS _ (lv_sub hl [] rfl)
set_option maxRecDepth 100000 in
set_option maxHeartbeats 4000000 in
theorem k_D_isBelowRanges_0 {p : Program} {l : Launch} {e : Env} {R : Room} {s : State} {m : MethodId} {args : Array Value} {below : List Frame} {meth : Method} {c : Code} {dC : Nat → ClassId} {dI : Nat → Nat → Nat} {cB cI cL : ClassId} {A : Nat → Prop} (X : zx p s m args meth c R R_D b_D_isBelowRanges (some .boolean) 4 0 0) (hA : ∀ q, s.heap.size ≤ q → A q) (zz : zk dC dI cB cI cL A s)  (sD : zD) (v1 : Int64) (a : Int32) (hG : g_D_isBelowRanges sD v1 = some a) (adD adD_parts adD_bytes adD_lows adD_highs : Nat) (H : Heap) (locs : List Loc) (hP : va_P (dC, dI) zcl (zwD adD adD_parts adD_bytes adD_lows adD_highs cB cI cL sD) H) (hD : va_D A (zwD adD adD_parts adD_bytes adD_lows adD_highs cB cI cL sD)) (hS : va_S A s.heap H locs) (ls : Array Slot) (hl : lv_has ls 4 [(0, .ref adD), (1, .long v1)]) : W p l e R s m args below meth c H locs 0 0 (MQ below (q_D_isBelowRanges dC dI cB cI cL A adD adD_parts adD_bytes adD_lows adD_highs sD a) args s 0 0 A) (F0 m 0 ls []) := by
  obtain ⟨hx, hb, hr, hml, hown, hts, hlocks, hRf, hRl⟩ := id X
  unfold g_D_isBelowRanges at hG
  refine lv_aload_n hx hb d_D_isBelowRanges_0 rfl (lv_at hl 0 rfl) ?_
  refine va_get (D := (dC, dI)) (ci := 6) (v := .int (zD_ranges sD)) (C := R_D) (T := F_D) (N := 6) hx hb hts zi_D hown zz.1 hP 0 rfl rfl 5 (by decide) (hts (.fieldLink R_D 35 "WireCodec$Draft" "ranges" "I") zin_D_35) (fun _ h9 => h9) rfl d_D_isBelowRanges_1 ?_
  refine lv_iconst (v := (1 : Int32)) hx hb d_D_isBelowRanges_4 (by decide) ?_
  refine lv_isub hx hb d_D_isBelowRanges_5 ?_
  refine lv_istore_n (lv' := [(3, .int ((zD_ranges sD) - (1 : Int32))), (0, .ref adD), (1, .long v1)]) hx hb d_D_isBelowRanges_6 rfl hl (by decide) rfl (fun ls hl => ?_)
  refine lv_iload_n hx hb d_D_isBelowRanges_7 rfl (lv_at hl 0 rfl) ?_
  refine lv_if_lt (tgt := 35) hx hb d_D_isBelowRanges_8 (by decide) (fun hc => ?_) (fun hc => ?_)
  · have hG := zt hG hc
    exact k_D_isBelowRanges_35 X hA zz sD _ hG adD adD_parts adD_bytes adD_lows adD_highs _ _ hP hD hS _ (lv_sub hl [] rfl)
  · have hG := zf hG hc
    refine lv_iload_n hx hb d_D_isBelowRanges_11 rfl (lv_at hl 0 rfl) ?_
    refine lv_aload_n hx hb d_D_isBelowRanges_12 rfl (lv_at hl 1 rfl) ?_
    refine va_get (D := (dC, dI)) (ci := 6) (v := .ref adD_lows) (C := R_D) (T := F_D) (N := 6) hx hb hts zi_D hown zz.1 hP 0 rfl rfl 2 (by decide) (hts (.fieldLink R_D 19 "WireCodec$Draft" "lows" "[J") zin_D_19) (fun _ h9 => h9) rfl d_D_isBelowRanges_13 ?_
    refine va_alen (v := (500 : Int32)) hx hb zz.1 hP 3 2 rfl rfl rfl d_D_isBelowRanges_16 ?_
    refine lv_icmp_ge (tgt := 35) hx hb d_D_isBelowRanges_17 (by decide) (fun hc => ?_) (fun hc => ?_)
    · have hG := zt hG hc
      exact k_D_isBelowRanges_35 X hA zz sD _ hG adD adD_parts adD_bytes adD_lows adD_highs _ _ hP hD hS _ (lv_sub hl [] rfl)
    · have hG := zf hG hc
      refine lv_lload_n hx hb d_D_isBelowRanges_20 rfl (lv_at hl 2 rfl) ?_
      refine lv_aload_n hx hb d_D_isBelowRanges_21 rfl (lv_at hl 1 rfl) ?_
      refine va_get (D := (dC, dI)) (ci := 6) (v := .ref adD_lows) (C := R_D) (T := F_D) (N := 6) hx hb hts zi_D hown zz.1 hP 0 rfl rfl 2 (by decide) (hts (.fieldLink R_D 19 "WireCodec$Draft" "lows" "[J") zin_D_19) (fun _ h9 => h9) rfl d_D_isBelowRanges_22 ?_
      refine lv_iload_n hx hb d_D_isBelowRanges_25 rfl (lv_at hl 0 rfl) ?_
      obtain ⟨hin, hG⟩ := zgd hG
      refine va_lald hx hb zz.1 hP 3 2 rfl rfl hin d_D_isBelowRanges_26 ?_
      refine lv_ldc2 (v := (2 : Int64)) hx hb hown (hts (.constantLong R_D 38 (2 : Int64)) zin_D_38) d_D_isBelowRanges_27 ?_
      refine lv_lsub hx hb d_D_isBelowRanges_30 ?_
      refine W.lcmp hx hb d_D_isBelowRanges_31 ?_
      refine lv_if_gt (tgt := 39) hx hb d_D_isBelowRanges_32 (by decide) (fun hc => ?_) (fun hc => ?_)
      · have hG := zt hG hc
        refine lv_iconst (v := (0 : Int32)) hx hb d_D_isBelowRanges_39 (by decide) ?_
        exact k_D_isBelowRanges_40 X hA zz sD (0 : Int32) _ hG adD adD_parts adD_bytes adD_lows adD_highs _ _ hP hD hS _ (lv_sub hl [] rfl)
      · have hG := zf hG hc
        exact k_D_isBelowRanges_35 X hA zz sD _ hG adD adD_parts adD_bytes adD_lows adD_highs _ _ hP hD hS _ (lv_sub hl [] rfl)
set_option maxRecDepth 100000 in
set_option maxHeartbeats 4000000 in
theorem c_D_isBelowRanges (l : Launch) (dC : Nat → ClassId) (dI : Nat → Nat → Nat) (cB cI cL : ClassId) (sz : Nat) (adD adD_parts adD_bytes adD_lows adD_highs : Nat) (sD : zD) (v1 : Int64) (a : Int32) (hG : g_D_isBelowRanges sD v1 = some a) : Met l y_D_isBelowRanges (zw y_D_isBelowRanges b_D_isBelowRanges 4 (some .boolean)) ({ frames := 0, cells := 0, slots := 0, locals := 0 }) (va_Pc [.ref adD, .long v1] (zpre dC dI cB cI cL sz (zwD adD adD_parts adD_bytes adD_lows adD_highs cB cI cL sD))) (q_D_isBelowRanges dC dI cB cI cL (va_A (zwD adD adD_parts adD_bytes adD_lows adD_highs cB cI cL sD) sz) adD adD_parts adD_bytes adD_lows adD_highs sD a) 0 0 (va_A (zwD adD adD_parts adD_bytes adD_lows adD_highs cB cI cL sD) sz) := by
  refine Met.ofW (cc := b_D_isBelowRanges) (maxL := 4) (ret := (some .boolean)) (by decide) rfl ?_
  intro p e s m args below meth c s₁ B hml hv
  obtain ⟨rfl, hsz, hP, zz, hD0⟩ := hv
  subst hsz
  have X := zx_of (F := 0) (L := 0) B hml (Nat.le_refl _) (Nat.le_refl _)
  have hD := hD0.self (sz := s.heap.size)
  have hA : ∀ q : Nat, s.heap.size ≤ q → va_A (zwD adD adD_parts adD_bytes adD_lows adD_highs cB cI cL sD) s.heap.size q := fun q h => Or.inr h
  have hl := lv_entry ([.ref adD, .long v1]) (n := 4) (Nat.le_of_ble_eq_true rfl)
  rw [lg_entry_eq]
  generalize (lg_sl ([.ref adD, .long v1]) ++ List.replicate (4 - (lg_sl ([.ref adD, .long v1])).length) Slot.unset).toArray = ls at hl ⊢
  exact k_D_isBelowRanges_0 X hA zz sD v1 a hG adD adD_parts adD_bytes adD_lows adD_highs _ _ hP hD va_S.rf ls hl
noncomputable def g_D_appendRange_61 (sD : zD) : Option (zD) := some (sD)
noncomputable def g_D_appendRange_w58 (sD_58 : zD) : Option (zD) := g_D_appendRange_61 sD_58
noncomputable def g_D_appendRange_w50 (sD_50 : zD) : Option (zD) := g_D_appendRange_w58 (zD_ranges' sD_50 ((zD_ranges sD_50) + (1 : Int32)))
noncomputable def g_D_appendRange_w40 (v3 : Int64) (sD_40 : zD) : Option (zD) := zg (vp_in (zD_ranges sD_40) 500) (g_D_appendRange_w50 (zD_highs' sD_40 (vp_updL (zD_highs sD_40) ((zD_ranges sD_40).toNatClampNeg) v3)))
noncomputable def g_D_appendRange (sD : zD) (v1 : Int64) (v3 : Int64) : Option (zD) := if (zD_ranges sD) < (0 : Int32) then (g_D_appendRange_61 sD) else (if (500 : Int32) ≤ (zD_ranges sD) then (g_D_appendRange_61 sD) else (if (500 : Int32) ≤ (zD_ranges sD) then (g_D_appendRange_61 sD) else (zg (vp_in (zD_ranges sD) 500) (g_D_appendRange_w40 v3 (zD_lows' sD (vp_updL (zD_lows sD) ((zD_ranges sD).toNatClampNeg) v1))))))
def q_D_appendRange (dC : Nat → ClassId) (dI : Nat → Nat → Nat) (cB cI cL : ClassId) (A : Nat → Prop) (adD : Nat) (adD_parts : Nat) (adD_bytes : Nat) (adD_lows : Nat) (adD_highs : Nat) (a : zD) : Array Value → State → Outcome → State → Prop := va_Qv (fun (u : zD) => (u) = a) (fun u U => va_P (dC, dI) zcl (zwD adD adD_parts adD_bytes adD_lows adD_highs cB cI cL u) U.heap ∧ va_D A (zwD adD adD_parts adD_bytes adD_lows adD_highs cB cI cL u)) A
set_option maxRecDepth 100000 in
set_option maxHeartbeats 4000000 in
theorem k_D_appendRange_61 {p : Program} {l : Launch} {e : Env} {R : Room} {s : State} {m : MethodId} {args : Array Value} {below : List Frame} {meth : Method} {c : Code} {dC : Nat → ClassId} {dI : Nat → Nat → Nat} {cB cI cL : ClassId} {A : Nat → Prop} (X : zx p s m args meth c R R_D b_D_appendRange none 5 0 0) (hA : ∀ q, s.heap.size ≤ q → A q) (zz : zk dC dI cB cI cL A s)  (sD : zD) (a : zD) (hG : g_D_appendRange_61 sD = some a) (adD adD_parts adD_bytes adD_lows adD_highs : Nat) (H : Heap) (locs : List Loc) (hP : va_P (dC, dI) zcl (zwD adD adD_parts adD_bytes adD_lows adD_highs cB cI cL sD) H) (hD : va_D A (zwD adD adD_parts adD_bytes adD_lows adD_highs cB cI cL sD)) (hS : va_S A s.heap H locs) (ls : Array Slot) (hl : lv_has ls 5 []) : W p l e R s m args below meth c H locs 0 0 (MQ below (q_D_appendRange dC dI cB cI cL A adD adD_parts adD_bytes adD_lows adD_highs a) args s 0 0 A) (F0 m 61 ls []) := by
  obtain ⟨hx, hb, hr, hml, hown, hts, hlocks, hRf, hRl⟩ := id X
  unfold g_D_appendRange_61 at hG
  exact W.vret hx hb hr (fun t9 ht9 hW9 => ⟨⟨(sD), rfl, Option.some.inj hG, by rw [ht9]; exact hP, hD⟩, hS.F ht9⟩) hS.2.2 d_D_appendRange_61
set_option maxRecDepth 100000 in
set_option maxHeartbeats 4000000 in
theorem k_D_appendRange_0 {p : Program} {l : Launch} {e : Env} {R : Room} {s : State} {m : MethodId} {args : Array Value} {below : List Frame} {meth : Method} {c : Code} {dC : Nat → ClassId} {dI : Nat → Nat → Nat} {cB cI cL : ClassId} {A : Nat → Prop} (X : zx p s m args meth c R R_D b_D_appendRange none 5 0 0) (hA : ∀ q, s.heap.size ≤ q → A q) (zz : zk dC dI cB cI cL A s)  (sD : zD) (v1 : Int64) (v3 : Int64) (a : zD) (hG : g_D_appendRange sD v1 v3 = some a) (adD adD_parts adD_bytes adD_lows adD_highs : Nat) (H : Heap) (locs : List Loc) (hP : va_P (dC, dI) zcl (zwD adD adD_parts adD_bytes adD_lows adD_highs cB cI cL sD) H) (hD : va_D A (zwD adD adD_parts adD_bytes adD_lows adD_highs cB cI cL sD)) (hS : va_S A s.heap H locs) (ls : Array Slot) (hl : lv_has ls 5 [(0, .ref adD), (1, .long v1), (3, .long v3)]) : W p l e R s m args below meth c H locs 0 0 (MQ below (q_D_appendRange dC dI cB cI cL A adD adD_parts adD_bytes adD_lows adD_highs a) args s 0 0 A) (F0 m 0 ls []) := by
  obtain ⟨hx, hb, hr, hml, hown, hts, hlocks, hRf, hRl⟩ := id X
  unfold g_D_appendRange at hG
  refine lv_aload_n hx hb d_D_appendRange_0 rfl (lv_at hl 0 rfl) ?_
  refine va_get (D := (dC, dI)) (ci := 6) (v := .int (zD_ranges sD)) (C := R_D) (T := F_D) (N := 6) hx hb hts zi_D hown zz.1 hP 0 rfl rfl 5 (by decide) (hts (.fieldLink R_D 35 "WireCodec$Draft" "ranges" "I") zin_D_35) (fun _ h9 => h9) rfl d_D_appendRange_1 ?_
  refine lv_if_lt (tgt := 61) hx hb d_D_appendRange_4 (by decide) (fun hc => ?_) (fun hc => ?_)
  · have hG := zt hG hc
    exact k_D_appendRange_61 X hA zz sD _ hG adD adD_parts adD_bytes adD_lows adD_highs _ _ hP hD hS _ (lv_sub hl [] rfl)
  · have hG := zf hG hc
    refine lv_aload_n hx hb d_D_appendRange_7 rfl (lv_at hl 0 rfl) ?_
    refine va_get (D := (dC, dI)) (ci := 6) (v := .int (zD_ranges sD)) (C := R_D) (T := F_D) (N := 6) hx hb hts zi_D hown zz.1 hP 0 rfl rfl 5 (by decide) (hts (.fieldLink R_D 35 "WireCodec$Draft" "ranges" "I") zin_D_35) (fun _ h9 => h9) rfl d_D_appendRange_8 ?_
    refine lv_aload_n hx hb d_D_appendRange_11 rfl (lv_at hl 0 rfl) ?_
    refine va_get (D := (dC, dI)) (ci := 6) (v := .ref adD_lows) (C := R_D) (T := F_D) (N := 6) hx hb hts zi_D hown zz.1 hP 0 rfl rfl 2 (by decide) (hts (.fieldLink R_D 19 "WireCodec$Draft" "lows" "[J") zin_D_19) (fun _ h9 => h9) rfl d_D_appendRange_12 ?_
    refine va_alen (v := (500 : Int32)) hx hb zz.1 hP 3 2 rfl rfl rfl d_D_appendRange_15 ?_
    refine lv_icmp_ge (tgt := 61) hx hb d_D_appendRange_16 (by decide) (fun hc => ?_) (fun hc => ?_)
    · have hG := zt hG hc
      exact k_D_appendRange_61 X hA zz sD _ hG adD adD_parts adD_bytes adD_lows adD_highs _ _ hP hD hS _ (lv_sub hl [] rfl)
    · have hG := zf hG hc
      refine lv_aload_n hx hb d_D_appendRange_19 rfl (lv_at hl 0 rfl) ?_
      refine va_get (D := (dC, dI)) (ci := 6) (v := .int (zD_ranges sD)) (C := R_D) (T := F_D) (N := 6) hx hb hts zi_D hown zz.1 hP 0 rfl rfl 5 (by decide) (hts (.fieldLink R_D 35 "WireCodec$Draft" "ranges" "I") zin_D_35) (fun _ h9 => h9) rfl d_D_appendRange_20 ?_
      refine lv_aload_n hx hb d_D_appendRange_23 rfl (lv_at hl 0 rfl) ?_
      refine va_get (D := (dC, dI)) (ci := 6) (v := .ref adD_highs) (C := R_D) (T := F_D) (N := 6) hx hb hts zi_D hown zz.1 hP 0 rfl rfl 3 (by decide) (hts (.fieldLink R_D 22 "WireCodec$Draft" "highs" "[J") zin_D_22) (fun _ h9 => h9) rfl d_D_appendRange_24 ?_
      refine va_alen (v := (500 : Int32)) hx hb zz.1 hP 4 2 rfl rfl rfl d_D_appendRange_27 ?_
      refine lv_icmp_ge (tgt := 61) hx hb d_D_appendRange_28 (by decide) (fun hc => ?_) (fun hc => ?_)
      · have hG := zt hG hc
        exact k_D_appendRange_61 X hA zz sD _ hG adD adD_parts adD_bytes adD_lows adD_highs _ _ hP hD hS _ (lv_sub hl [] rfl)
      · have hG := zf hG hc
        refine lv_aload_n hx hb d_D_appendRange_31 rfl (lv_at hl 0 rfl) ?_
        refine va_get (D := (dC, dI)) (ci := 6) (v := .ref adD_lows) (C := R_D) (T := F_D) (N := 6) hx hb hts zi_D hown zz.1 hP 0 rfl rfl 2 (by decide) (hts (.fieldLink R_D 19 "WireCodec$Draft" "lows" "[J") zin_D_19) (fun _ h9 => h9) rfl d_D_appendRange_32 ?_
        refine lv_aload_n hx hb d_D_appendRange_35 rfl (lv_at hl 0 rfl) ?_
        refine va_get (D := (dC, dI)) (ci := 6) (v := .int (zD_ranges sD)) (C := R_D) (T := F_D) (N := 6) hx hb hts zi_D hown zz.1 hP 0 rfl rfl 5 (by decide) (hts (.fieldLink R_D 35 "WireCodec$Draft" "ranges" "I") zin_D_35) (fun _ h9 => h9) rfl d_D_appendRange_36 ?_
        refine lv_lload_n hx hb d_D_appendRange_39 rfl (lv_at hl 1 rfl) ?_
        obtain ⟨hin, hG⟩ := zgd hG
        refine va_last hx hb zz.1 hP hD hS 3 2 rfl rfl hin d_D_appendRange_40 (fun H locs hP hD hS => ?_)
        have hP : va_P (dC, dI) zcl (zwD adD adD_parts adD_bytes adD_lows adD_highs cB cI cL (zD_lows' sD (vp_updL (zD_lows sD) ((zD_ranges sD).toNatClampNeg) v1))) H := hP
        have hD : va_D A (zwD adD adD_parts adD_bytes adD_lows adD_highs cB cI cL (zD_lows' sD (vp_updL (zD_lows sD) ((zD_ranges sD).toNatClampNeg) v1))) := hD
        have hG : g_D_appendRange_w40 v3 (zD_lows' sD (vp_updL (zD_lows sD) ((zD_ranges sD).toNatClampNeg) v1)) = some a := hG
        generalize zD_lows' sD (vp_updL (zD_lows sD) ((zD_ranges sD).toNatClampNeg) v1) = sD_40 at hP hD hG
        unfold g_D_appendRange_w40 at hG
        refine lv_aload_n hx hb d_D_appendRange_41 rfl (lv_at hl 0 rfl) ?_
        refine va_get (D := (dC, dI)) (ci := 6) (v := .ref adD_highs) (C := R_D) (T := F_D) (N := 6) hx hb hts zi_D hown zz.1 hP 0 rfl rfl 3 (by decide) (hts (.fieldLink R_D 22 "WireCodec$Draft" "highs" "[J") zin_D_22) (fun _ h9 => h9) rfl d_D_appendRange_42 ?_
        refine lv_aload_n hx hb d_D_appendRange_45 rfl (lv_at hl 0 rfl) ?_
        refine va_get (D := (dC, dI)) (ci := 6) (v := .int (zD_ranges sD_40)) (C := R_D) (T := F_D) (N := 6) hx hb hts zi_D hown zz.1 hP 0 rfl rfl 5 (by decide) (hts (.fieldLink R_D 35 "WireCodec$Draft" "ranges" "I") zin_D_35) (fun _ h9 => h9) rfl d_D_appendRange_46 ?_
        refine lv_lload_n hx hb d_D_appendRange_49 rfl (lv_at hl 2 rfl) ?_
        obtain ⟨hin, hG⟩ := zgd hG
        refine va_last hx hb zz.1 hP hD hS 4 2 rfl rfl hin d_D_appendRange_50 (fun H locs hP hD hS => ?_)
        have hP : va_P (dC, dI) zcl (zwD adD adD_parts adD_bytes adD_lows adD_highs cB cI cL (zD_highs' sD_40 (vp_updL (zD_highs sD_40) ((zD_ranges sD_40).toNatClampNeg) v3))) H := hP
        have hD : va_D A (zwD adD adD_parts adD_bytes adD_lows adD_highs cB cI cL (zD_highs' sD_40 (vp_updL (zD_highs sD_40) ((zD_ranges sD_40).toNatClampNeg) v3))) := hD
        have hG : g_D_appendRange_w50 (zD_highs' sD_40 (vp_updL (zD_highs sD_40) ((zD_ranges sD_40).toNatClampNeg) v3)) = some a := hG
        generalize zD_highs' sD_40 (vp_updL (zD_highs sD_40) ((zD_ranges sD_40).toNatClampNeg) v3) = sD_50 at hP hD hG
        unfold g_D_appendRange_w50 at hG
        refine lv_aload_n hx hb d_D_appendRange_51 rfl (lv_at hl 0 rfl) ?_
        refine lv_dup hx hb d_D_appendRange_52 rfl ?_
        refine va_get (D := (dC, dI)) (ci := 6) (v := .int (zD_ranges sD_50)) (C := R_D) (T := F_D) (N := 6) hx hb hts zi_D hown zz.1 hP 0 rfl rfl 5 (by decide) (hts (.fieldLink R_D 35 "WireCodec$Draft" "ranges" "I") zin_D_35) (fun _ h9 => h9) rfl d_D_appendRange_53 ?_
        refine lv_iconst (v := (1 : Int32)) hx hb d_D_appendRange_56 (by decide) ?_
        refine lv_iadd hx hb d_D_appendRange_57 ?_
        refine va_put (D := (dC, dI)) (ci := 6) (v := .int ((zD_ranges sD_50) + (1 : Int32))) (ty := .int) (C := R_D) (T := F_D) (N := 6) hx hb hts zi_D zty_D zty_D_ok znm_D hown zz.1 hP hD hS 0 rfl rfl 5 (by decide) (hts (.fieldLink R_D 35 "WireCodec$Draft" "ranges" "I") zin_D_35) (fun _ h9 => h9) rfl (by decide +kernel) rfl rfl (Nat.le_of_ble_eq_true rfl) d_D_appendRange_58 (fun H locs hP hD hS => ?_)
        have hP : va_P (dC, dI) zcl (zwD adD adD_parts adD_bytes adD_lows adD_highs cB cI cL (zD_ranges' sD_50 ((zD_ranges sD_50) + (1 : Int32)))) H := hP
        have hD : va_D A (zwD adD adD_parts adD_bytes adD_lows adD_highs cB cI cL (zD_ranges' sD_50 ((zD_ranges sD_50) + (1 : Int32)))) := hD
        have hG : g_D_appendRange_w58 (zD_ranges' sD_50 ((zD_ranges sD_50) + (1 : Int32))) = some a := hG
        generalize zD_ranges' sD_50 ((zD_ranges sD_50) + (1 : Int32)) = sD_58 at hP hD hG
        unfold g_D_appendRange_w58 at hG
        exact k_D_appendRange_61 X hA zz sD_58 _ hG adD adD_parts adD_bytes adD_lows adD_highs _ _ hP hD hS _ (lv_sub hl [] rfl)
set_option maxRecDepth 100000 in
set_option maxHeartbeats 4000000 in
theorem c_D_appendRange (l : Launch) (dC : Nat → ClassId) (dI : Nat → Nat → Nat) (cB cI cL : ClassId) (sz : Nat) (adD adD_parts adD_bytes adD_lows adD_highs : Nat) (sD : zD) (v1 : Int64) (v3 : Int64) (a : zD) (hG : g_D_appendRange sD v1 v3 = some a) : Met l y_D_appendRange (zw y_D_appendRange b_D_appendRange 5 none) ({ frames := 0, cells := 0, slots := 0, locals := 0 }) (va_Pc [.ref adD, .long v1, .long v3] (zpre dC dI cB cI cL sz (zwD adD adD_parts adD_bytes adD_lows adD_highs cB cI cL sD))) (q_D_appendRange dC dI cB cI cL (va_A (zwD adD adD_parts adD_bytes adD_lows adD_highs cB cI cL sD) sz) adD adD_parts adD_bytes adD_lows adD_highs a) 0 0 (va_A (zwD adD adD_parts adD_bytes adD_lows adD_highs cB cI cL sD) sz) := by
  refine Met.ofW (cc := b_D_appendRange) (maxL := 5) (ret := none) (by decide) rfl ?_
  intro p e s m args below meth c s₁ B hml hv
  obtain ⟨rfl, hsz, hP, zz, hD0⟩ := hv
  subst hsz
  have X := zx_of (F := 0) (L := 0) B hml (Nat.le_refl _) (Nat.le_refl _)
  have hD := hD0.self (sz := s.heap.size)
  have hA : ∀ q : Nat, s.heap.size ≤ q → va_A (zwD adD adD_parts adD_bytes adD_lows adD_highs cB cI cL sD) s.heap.size q := fun q h => Or.inr h
  have hl := lv_entry ([.ref adD, .long v1, .long v3]) (n := 5) (Nat.le_of_ble_eq_true rfl)
  rw [lg_entry_eq]
  generalize (lg_sl ([.ref adD, .long v1, .long v3]) ++ List.replicate (5 - (lg_sl ([.ref adD, .long v1, .long v3])).length) Slot.unset).toArray = ls at hl ⊢
  exact k_D_appendRange_0 X hA zz sD v1 v3 a hG adD adD_parts adD_bytes adD_lows adD_highs _ _ hP hD va_S.rf ls hl

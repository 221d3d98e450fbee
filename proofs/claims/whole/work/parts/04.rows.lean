theorem zy_R_left : zy y_R_left b_R_left 1 (some .int) 0 := ⟨zmem 558 (by decide +kernel) (by decide +kernel), zmem 64 (by decide +kernel) (by decide +kernel), by decide +kernel⟩
theorem zv_R_left : Cond.instanceMethod y_R_left ∈ ztb ∧ Cond.selects y_R_left.cls y_R_left y_R_left ∈ ztb := ⟨zmem 556 (by decide +kernel) (by decide +kernel), zmem 557 (by decide +kernel) (by decide +kernel)⟩
theorem d_R_left_0 : decode b_R_left 0 = .ok (.aload_n 0, 1) := by decide +kernel
theorem d_R_left_1 : decode b_R_left 1 = .ok (.getfield 17, 3) := by decide +kernel
theorem d_R_left_4 : decode b_R_left 4 = .ok (.aload_n 0, 1) := by decide +kernel
theorem d_R_left_5 : decode b_R_left 5 = .ok (.getfield 13, 3) := by decide +kernel
theorem d_R_left_8 : decode b_R_left 8 = .ok (.isub, 1) := by decide +kernel
theorem d_R_left_9 : decode b_R_left 9 = .ok (.ireturn, 1) := by decide +kernel
theorem zy_R_takeBytes : zy y_R_takeBytes b_R_takeBytes 4 (some .int) 1 := ⟨zmem 575 (by decide +kernel) (by decide +kernel), zmem 64 (by decide +kernel) (by decide +kernel), by decide +kernel⟩
theorem zv_R_takeBytes : Cond.instanceMethod y_R_takeBytes ∈ ztb ∧ Cond.selects y_R_takeBytes.cls y_R_takeBytes y_R_takeBytes ∈ ztb := ⟨zmem 573 (by decide +kernel) (by decide +kernel), zmem 574 (by decide +kernel) (by decide +kernel)⟩
theorem d_R_takeBytes_0 : decode b_R_takeBytes 0 = .ok (.aload_n 0, 1) := by decide +kernel
theorem d_R_takeBytes_1 : decode b_R_takeBytes 1 = .ok (.getfield 13, 3) := by decide +kernel
theorem d_R_takeBytes_4 : decode b_R_takeBytes 4 = .ok (.istore_n 3, 1) := by decide +kernel
theorem d_R_takeBytes_5 : decode b_R_takeBytes 5 = .ok (.aload_n 0, 1) := by decide +kernel
theorem d_R_takeBytes_6 : decode b_R_takeBytes 6 = .ok (.getfield 20, 3) := by decide +kernel
theorem d_R_takeBytes_9 : decode b_R_takeBytes 9 = .ok (.ifCond .ne 13, 3) := by decide +kernel
theorem d_R_takeBytes_12 : decode b_R_takeBytes 12 = .ok (.lload_n 1, 1) := by decide +kernel
theorem d_R_takeBytes_13 : decode b_R_takeBytes 13 = .ok (.aload_n 0, 1) := by decide +kernel
theorem d_R_takeBytes_14 : decode b_R_takeBytes 14 = .ok (.invokevirtual 24, 3) := by decide +kernel
theorem d_R_takeBytes_17 : decode b_R_takeBytes 17 = .ok (.i2l, 1) := by decide +kernel
theorem d_R_takeBytes_18 : decode b_R_takeBytes 18 = .ok (.lcmp, 1) := by decide +kernel
theorem d_R_takeBytes_19 : decode b_R_takeBytes 19 = .ok (.ifCond .le 11, 3) := by decide +kernel
theorem d_R_takeBytes_22 : decode b_R_takeBytes 22 = .ok (.aload_n 0, 1) := by decide +kernel
theorem d_R_takeBytes_23 : decode b_R_takeBytes 23 = .ok (.iconst 1, 1) := by decide +kernel
theorem d_R_takeBytes_24 : decode b_R_takeBytes 24 = .ok (.putfield 20, 3) := by decide +kernel
theorem d_R_takeBytes_27 : decode b_R_takeBytes 27 = .ok (.goto 14, 3) := by decide +kernel
theorem d_R_takeBytes_30 : decode b_R_takeBytes 30 = .ok (.aload_n 0, 1) := by decide +kernel
theorem d_R_takeBytes_31 : decode b_R_takeBytes 31 = .ok (.dup, 1) := by decide +kernel
theorem d_R_takeBytes_32 : decode b_R_takeBytes 32 = .ok (.getfield 13, 3) := by decide +kernel
theorem d_R_takeBytes_35 : decode b_R_takeBytes 35 = .ok (.lload_n 1, 1) := by decide +kernel
theorem d_R_takeBytes_36 : decode b_R_takeBytes 36 = .ok (.l2i, 1) := by decide +kernel
theorem d_R_takeBytes_37 : decode b_R_takeBytes 37 = .ok (.iadd, 1) := by decide +kernel
theorem d_R_takeBytes_38 : decode b_R_takeBytes 38 = .ok (.putfield 13, 3) := by decide +kernel
theorem d_R_takeBytes_41 : decode b_R_takeBytes 41 = .ok (.iload_n 3, 1) := by decide +kernel
theorem d_R_takeBytes_42 : decode b_R_takeBytes 42 = .ok (.ireturn, 1) := by decide +kernel
theorem zy_T_byteAt : zy y_T_byteAt b_T_byteAt 2 (some .int) 1 := ⟨zmem 511 (by decide +kernel) (by decide +kernel), zmem 63 (by decide +kernel) (by decide +kernel), by decide +kernel⟩
theorem zv_T_byteAt : Cond.instanceMethod y_T_byteAt ∈ ztb ∧ Cond.selects y_T_byteAt.cls y_T_byteAt y_T_byteAt ∈ ztb := ⟨zmem 509 (by decide +kernel) (by decide +kernel), zmem 510 (by decide +kernel) (by decide +kernel)⟩
theorem d_T_byteAt_0 : decode b_T_byteAt 0 = .ok (.iload_n 1, 1) := by decide +kernel
theorem d_T_byteAt_1 : decode b_T_byteAt 1 = .ok (.ifCond .lt 25, 3) := by decide +kernel
theorem d_T_byteAt_4 : decode b_T_byteAt 4 = .ok (.iload_n 1, 1) := by decide +kernel
theorem d_T_byteAt_5 : decode b_T_byteAt 5 = .ok (.aload_n 0, 1) := by decide +kernel
theorem d_T_byteAt_6 : decode b_T_byteAt 6 = .ok (.getfield 9, 3) := by decide +kernel
theorem d_T_byteAt_9 : decode b_T_byteAt 9 = .ok (.arraylength, 1) := by decide +kernel
theorem d_T_byteAt_10 : decode b_T_byteAt 10 = .ok (.if_icmp .ge 16, 3) := by decide +kernel
theorem d_T_byteAt_13 : decode b_T_byteAt 13 = .ok (.aload_n 0, 1) := by decide +kernel
theorem d_T_byteAt_14 : decode b_T_byteAt 14 = .ok (.getfield 9, 3) := by decide +kernel
theorem d_T_byteAt_17 : decode b_T_byteAt 17 = .ok (.iload_n 1, 1) := by decide +kernel
theorem d_T_byteAt_18 : decode b_T_byteAt 18 = .ok (.baload, 1) := by decide +kernel
theorem d_T_byteAt_19 : decode b_T_byteAt 19 = .ok (.sipush 255, 3) := by decide +kernel
theorem d_T_byteAt_22 : decode b_T_byteAt 22 = .ok (.iand, 1) := by decide +kernel
theorem d_T_byteAt_23 : decode b_T_byteAt 23 = .ok (.goto 4, 3) := by decide +kernel
theorem d_T_byteAt_26 : decode b_T_byteAt 26 = .ok (.iconst 0, 1) := by decide +kernel
theorem d_T_byteAt_27 : decode b_T_byteAt 27 = .ok (.ireturn, 1) := by decide +kernel
theorem zy_T_wordAt : zy y_T_wordAt b_T_wordAt 6 (some .long) 2 := ⟨zmem 539 (by decide +kernel) (by decide +kernel), zmem 63 (by decide +kernel) (by decide +kernel), by decide +kernel⟩
theorem zv_T_wordAt : Cond.instanceMethod y_T_wordAt ∈ ztb ∧ Cond.selects y_T_wordAt.cls y_T_wordAt y_T_wordAt ∈ ztb := ⟨zmem 537 (by decide +kernel) (by decide +kernel), zmem 538 (by decide +kernel) (by decide +kernel)⟩
theorem d_T_wordAt_0 : decode b_T_wordAt 0 = .ok (.lconst 0, 1) := by decide +kernel
theorem d_T_wordAt_1 : decode b_T_wordAt 1 = .ok (.lstore_n 3, 1) := by decide +kernel
theorem d_T_wordAt_2 : decode b_T_wordAt 2 = .ok (.iload_n 1, 1) := by decide +kernel
theorem d_T_wordAt_3 : decode b_T_wordAt 3 = .ok (.istore 5, 2) := by decide +kernel
theorem d_T_wordAt_5 : decode b_T_wordAt 5 = .ok (.iload 5, 2) := by decide +kernel
theorem d_T_wordAt_7 : decode b_T_wordAt 7 = .ok (.iload_n 1, 1) := by decide +kernel
theorem d_T_wordAt_8 : decode b_T_wordAt 8 = .ok (.iload_n 2, 1) := by decide +kernel
theorem d_T_wordAt_9 : decode b_T_wordAt 9 = .ok (.iadd, 1) := by decide +kernel
theorem d_T_wordAt_10 : decode b_T_wordAt 10 = .ok (.if_icmp .ge 46, 3) := by decide +kernel
theorem d_T_wordAt_13 : decode b_T_wordAt 13 = .ok (.lload_n 3, 1) := by decide +kernel
theorem d_T_wordAt_14 : decode b_T_wordAt 14 = .ok (.bipush 8, 2) := by decide +kernel
theorem d_T_wordAt_16 : decode b_T_wordAt 16 = .ok (.lshl, 1) := by decide +kernel
theorem d_T_wordAt_17 : decode b_T_wordAt 17 = .ok (.iload 5, 2) := by decide +kernel
theorem d_T_wordAt_19 : decode b_T_wordAt 19 = .ok (.ifCond .lt 27, 3) := by decide +kernel
theorem d_T_wordAt_22 : decode b_T_wordAt 22 = .ok (.iload 5, 2) := by decide +kernel
theorem d_T_wordAt_24 : decode b_T_wordAt 24 = .ok (.aload_n 0, 1) := by decide +kernel
theorem d_T_wordAt_25 : decode b_T_wordAt 25 = .ok (.getfield 9, 3) := by decide +kernel
theorem d_T_wordAt_28 : decode b_T_wordAt 28 = .ok (.arraylength, 1) := by decide +kernel
theorem d_T_wordAt_29 : decode b_T_wordAt 29 = .ok (.if_icmp .ge 17, 3) := by decide +kernel
theorem d_T_wordAt_32 : decode b_T_wordAt 32 = .ok (.aload_n 0, 1) := by decide +kernel
theorem d_T_wordAt_33 : decode b_T_wordAt 33 = .ok (.getfield 9, 3) := by decide +kernel
theorem d_T_wordAt_36 : decode b_T_wordAt 36 = .ok (.iload 5, 2) := by decide +kernel
theorem d_T_wordAt_38 : decode b_T_wordAt 38 = .ok (.baload, 1) := by decide +kernel
theorem d_T_wordAt_39 : decode b_T_wordAt 39 = .ok (.sipush 255, 3) := by decide +kernel
theorem d_T_wordAt_42 : decode b_T_wordAt 42 = .ok (.iand, 1) := by decide +kernel
theorem d_T_wordAt_43 : decode b_T_wordAt 43 = .ok (.goto 4, 3) := by decide +kernel
theorem d_T_wordAt_46 : decode b_T_wordAt 46 = .ok (.iconst 0, 1) := by decide +kernel
theorem d_T_wordAt_47 : decode b_T_wordAt 47 = .ok (.i2l, 1) := by decide +kernel
theorem d_T_wordAt_48 : decode b_T_wordAt 48 = .ok (.lor, 1) := by decide +kernel
theorem d_T_wordAt_49 : decode b_T_wordAt 49 = .ok (.lstore_n 3, 1) := by decide +kernel
theorem d_T_wordAt_50 : decode b_T_wordAt 50 = .ok (.iinc 5 1, 3) := by decide +kernel
theorem d_T_wordAt_53 : decode b_T_wordAt 53 = .ok (.goto (-48), 3) := by decide +kernel
theorem d_T_wordAt_56 : decode b_T_wordAt 56 = .ok (.lload_n 3, 1) := by decide +kernel
theorem d_T_wordAt_57 : decode b_T_wordAt 57 = .ok (.lreturn, 1) := by decide +kernel
theorem znest_0 : Cond.fieldLinkNest R_D 88 "WireCodec" "SHAPES" "[I" "WireCodec" ∈ zN := zmemN 752 (by decide +kernel) rfl
theorem znest_1 : Cond.methodLinkNest R_D 92 y_W_isNumber "WireCodec" ∈ zN := zmemN 733 (by decide +kernel) rfl
theorem znest_2 : Cond.methodLinkNest R_W 11 y_T_init "WireCodec" ∈ zN := zmemN 91 (by decide +kernel) rfl
theorem znest_3 : Cond.methodLinkNest R_W 27 y_G_init "WireCodec" ∈ zN := zmemN 136 (by decide +kernel) rfl
theorem znest_4 : Cond.methodLinkNest R_W 34 y_F_init "WireCodec" ∈ zN := zmemN 171 (by decide +kernel) rfl
theorem znest_5 : Cond.methodLinkNest R_W 41 y_H_init "WireCodec" ∈ zN := zmemN 207 (by decide +kernel) rfl
theorem znest_6 : Cond.methodLinkNest R_W 48 y_D_init "WireCodec" ∈ zN := zmemN 218 (by decide +kernel) rfl
theorem znest_7 : Cond.fieldLinkNest R_F 29 "WireCodec" "SHAPES" "[I" "WireCodec" ∈ zN := zmemN 579 (by decide +kernel) rfl
theorem zin_120 : Cond.fieldLink R_R 17 "WireCodec$Reader" "limit" "I" ∈ ztb := zmem 118 (by decide +kernel) (by decide +kernel)
theorem zin_119 : Cond.fieldLink R_R 13 "WireCodec$Reader" "place" "I" ∈ ztb := zmem 114 (by decide +kernel) (by decide +kernel)
theorem zin_121 : Cond.fieldLink R_R 20 "WireCodec$Reader" "over" "Z" ∈ ztb := zmem 120 (by decide +kernel) (by decide +kernel)
theorem zin_122 : Cond.methodLink R_R 24 y_R_left ∈ ztb := zmem 576 (by decide +kernel) (by decide +kernel)
theorem zin_135 : Cond.fieldLink R_T 9 "WireCodec$Tape" "bytes" "[B" ∈ ztb := zmem 95 (by decide +kernel) (by decide +kernel)

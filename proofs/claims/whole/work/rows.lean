section
-- ===== PART A: goes FIRST, ahead of the names: the tables' words, and 'selects' of the private methods out of them =====
/-- a private method of a class that the tables say can be made, by its rows of tables_1 -/
def lw_okq (q : MethodName × Nat) : Prop := (q.1.cls ≠ "java/lang/invoke/MethodHandle" ∧ q.1.cls ≠ "java/lang/invoke/VarHandle") ∧ Cond.instantiable q.1.cls q.2 ∈ tables_1 ∧ Cond.privateMethod q.1 ∈ tables_1 ∧ Cond.instanceMethod q.1 ∈ tables_1
theorem lw_p0 : lw_okq (⟨"java/lang/Throwable", "fillInStackTrace", "(I)Ljava/lang/Throwable;"⟩, 6) := ⟨⟨by decide +kernel, by decide +kernel⟩, List.mem_of_getElem? (i := 318) (by decide +kernel), List.mem_of_getElem? (i := 316) (by decide +kernel), List.mem_of_getElem? (i := 317) (by decide +kernel)⟩
theorem lw_p1 : lw_okq (⟨"WireCodec", "keepWritten", "()I"⟩, 7) := ⟨⟨by decide +kernel, by decide +kernel⟩, List.mem_of_getElem? (i := 21) (by decide +kernel), List.mem_of_getElem? (i := 368) (by decide +kernel), List.mem_of_getElem? (i := 369) (by decide +kernel)⟩
theorem lw_p2 : lw_okq (⟨"WireCodec", "requireByte", "(I)V"⟩, 7) := ⟨⟨by decide +kernel, by decide +kernel⟩, List.mem_of_getElem? (i := 21) (by decide +kernel), List.mem_of_getElem? (i := 428) (by decide +kernel), List.mem_of_getElem? (i := 429) (by decide +kernel)⟩
theorem lw_p3 : lw_okq (⟨"WireCodec", "requirePlace", "(I)V"⟩, 7) := ⟨⟨by decide +kernel, by decide +kernel⟩, List.mem_of_getElem? (i := 21) (by decide +kernel), List.mem_of_getElem? (i := 488) (by decide +kernel), List.mem_of_getElem? (i := 489) (by decide +kernel)⟩
theorem lw_p4 : lw_okq (⟨"WireCodec$Frame", "forget", "()V"⟩, 7) := ⟨⟨by decide +kernel, by decide +kernel⟩, List.mem_of_getElem? (i := 109) (by decide +kernel), List.mem_of_getElem? (i := 503) (by decide +kernel), List.mem_of_getElem? (i := 504) (by decide +kernel)⟩
theorem lw_p5 : lw_okq (⟨"WireCodec$Frame", "takeShape", "(LWireCodec$Reader;I)V"⟩, 7) := ⟨⟨by decide +kernel, by decide +kernel⟩, List.mem_of_getElem? (i := 109) (by decide +kernel), List.mem_of_getElem? (i := 521) (by decide +kernel), List.mem_of_getElem? (i := 522) (by decide +kernel)⟩
theorem lw_p6 : lw_okq (⟨"WireCodec$Frame", "takeData", "(LWireCodec$Reader;J)V"⟩, 7) := ⟨⟨by decide +kernel, by decide +kernel⟩, List.mem_of_getElem? (i := 109) (by decide +kernel), List.mem_of_getElem? (i := 526) (by decide +kernel), List.mem_of_getElem? (i := 527) (by decide +kernel)⟩
theorem lw_p7 : lw_okq (⟨"WireCodec$Frame", "takeRest", "(LWireCodec$Reader;II)V"⟩, 7) := ⟨⟨by decide +kernel, by decide +kernel⟩, List.mem_of_getElem? (i := 109) (by decide +kernel), List.mem_of_getElem? (i := 531) (by decide +kernel), List.mem_of_getElem? (i := 532) (by decide +kernel)⟩
theorem lw_p8 : lw_okq (⟨"WireCodec$Frame", "takeRangeCount", "(LWireCodec$Reader;)V"⟩, 7) := ⟨⟨by decide +kernel, by decide +kernel⟩, List.mem_of_getElem? (i := 109) (by decide +kernel), List.mem_of_getElem? (i := 540) (by decide +kernel), List.mem_of_getElem? (i := 541) (by decide +kernel)⟩
theorem lw_p9 : lw_okq (⟨"WireCodec$Frame", "takeCounts", "(LWireCodec$Reader;I)V"⟩, 7) := ⟨⟨by decide +kernel, by decide +kernel⟩, List.mem_of_getElem? (i := 109) (by decide +kernel), List.mem_of_getElem? (i := 550) (by decide +kernel), List.mem_of_getElem? (i := 551) (by decide +kernel)⟩
theorem lw_p10 : lw_okq (⟨"WireCodec$Frame", "takeStream", "(LWireCodec$Reader;I)V"⟩, 7) := ⟨⟨by decide +kernel, by decide +kernel⟩, List.mem_of_getElem? (i := 109) (by decide +kernel), List.mem_of_getElem? (i := 554) (by decide +kernel), List.mem_of_getElem? (i := 555) (by decide +kernel)⟩
theorem lw_p11 : lw_okq (⟨"WireCodec$Reading", "keepPlace", "(II)V"⟩, 7) := ⟨⟨by decide +kernel, by decide +kernel⟩, List.mem_of_getElem? (i := 74) (by decide +kernel), List.mem_of_getElem? (i := 572) (by decide +kernel), List.mem_of_getElem? (i := 573) (by decide +kernel)⟩
theorem lw_p12 : lw_okq (⟨"WireCodec", "startAtFrame", "(I)V"⟩, 7) := ⟨⟨by decide +kernel, by decide +kernel⟩, List.mem_of_getElem? (i := 21) (by decide +kernel), List.mem_of_getElem? (i := 592) (by decide +kernel), List.mem_of_getElem? (i := 593) (by decide +kernel)⟩
theorem lw_p13 : lw_okq (⟨"WireCodec$Draft", "isAck", "()Z"⟩, 6) := ⟨⟨by decide +kernel, by decide +kernel⟩, List.mem_of_getElem? (i := 156) (by decide +kernel), List.mem_of_getElem? (i := 669) (by decide +kernel), List.mem_of_getElem? (i := 670) (by decide +kernel)⟩
theorem lw_p14 : lw_okq (⟨"WireCodec$Draft", "hasCounts", "()Z"⟩, 6) := ⟨⟨by decide +kernel, by decide +kernel⟩, List.mem_of_getElem? (i := 156) (by decide +kernel), List.mem_of_getElem? (i := 674) (by decide +kernel), List.mem_of_getElem? (i := 675) (by decide +kernel)⟩
theorem lw_p15 : lw_okq (⟨"WireCodec$Draft", "hasShape", "(I)Z"⟩, 6) := ⟨⟨by decide +kernel, by decide +kernel⟩, List.mem_of_getElem? (i := 156) (by decide +kernel), List.mem_of_getElem? (i := 681) (by decide +kernel), List.mem_of_getElem? (i := 682) (by decide +kernel)⟩
def lw_privs_1 : List (MethodName × Nat) := [(⟨"java/lang/Throwable", "fillInStackTrace", "(I)Ljava/lang/Throwable;"⟩, 6), (⟨"WireCodec", "keepWritten", "()I"⟩, 7), (⟨"WireCodec", "requireByte", "(I)V"⟩, 7), (⟨"WireCodec", "requirePlace", "(I)V"⟩, 7), (⟨"WireCodec$Frame", "forget", "()V"⟩, 7), (⟨"WireCodec$Frame", "takeShape", "(LWireCodec$Reader;I)V"⟩, 7), (⟨"WireCodec$Frame", "takeData", "(LWireCodec$Reader;J)V"⟩, 7), (⟨"WireCodec$Frame", "takeRest", "(LWireCodec$Reader;II)V"⟩, 7), (⟨"WireCodec$Frame", "takeRangeCount", "(LWireCodec$Reader;)V"⟩, 7), (⟨"WireCodec$Frame", "takeCounts", "(LWireCodec$Reader;I)V"⟩, 7), (⟨"WireCodec$Frame", "takeStream", "(LWireCodec$Reader;I)V"⟩, 7), (⟨"WireCodec$Reading", "keepPlace", "(II)V"⟩, 7), (⟨"WireCodec", "startAtFrame", "(I)V"⟩, 7), (⟨"WireCodec$Draft", "isAck", "()Z"⟩, 6), (⟨"WireCodec$Draft", "hasCounts", "()Z"⟩, 6), (⟨"WireCodec$Draft", "hasShape", "(I)Z"⟩, 6)]
theorem lw_r1 : ∀ q ∈ lw_privs_1, lw_okq q := List.forall_mem_cons.mpr ⟨lw_p0, List.forall_mem_cons.mpr ⟨lw_p1, List.forall_mem_cons.mpr ⟨lw_p2, List.forall_mem_cons.mpr ⟨lw_p3, List.forall_mem_cons.mpr ⟨lw_p4, List.forall_mem_cons.mpr ⟨lw_p5, List.forall_mem_cons.mpr ⟨lw_p6, List.forall_mem_cons.mpr ⟨lw_p7, List.forall_mem_cons.mpr ⟨lw_p8, List.forall_mem_cons.mpr ⟨lw_p9, List.forall_mem_cons.mpr ⟨lw_p10, List.forall_mem_cons.mpr ⟨lw_p11, List.forall_mem_cons.mpr ⟨lw_p12, List.forall_mem_cons.mpr ⟨lw_p13, List.forall_mem_cons.mpr ⟨lw_p14, List.forall_mem_cons.mpr ⟨lw_p15, fun _ h => absurd h List.not_mem_nil⟩⟩⟩⟩⟩⟩⟩⟩⟩⟩⟩⟩⟩⟩⟩⟩
theorem lw_p16 : lw_okq (⟨"WireCodec$Draft", "firstByte", "(I)I"⟩, 6) := ⟨⟨by decide +kernel, by decide +kernel⟩, List.mem_of_getElem? (i := 156) (by decide +kernel), List.mem_of_getElem? (i := 685) (by decide +kernel), List.mem_of_getElem? (i := 686) (by decide +kernel)⟩
theorem lw_p17 : lw_okq (⟨"WireCodec$Draft", "writeAck", "(LWireCodec$Tape;I)V"⟩, 6) := ⟨⟨by decide +kernel, by decide +kernel⟩, List.mem_of_getElem? (i := 156) (by decide +kernel), List.mem_of_getElem? (i := 700) (by decide +kernel), List.mem_of_getElem? (i := 701) (by decide +kernel)⟩
theorem lw_p18 : lw_okq (⟨"WireCodec$Draft", "writeShape", "(LWireCodec$Tape;I)V"⟩, 6) := ⟨⟨by decide +kernel, by decide +kernel⟩, List.mem_of_getElem? (i := 156) (by decide +kernel), List.mem_of_getElem? (i := 705) (by decide +kernel), List.mem_of_getElem? (i := 706) (by decide +kernel)⟩
theorem lw_p19 : lw_okq (⟨"WireCodec$Header", "parseLong", "(LWireCodec$Reader;I)I"⟩, 1) := ⟨⟨by decide +kernel, by decide +kernel⟩, List.mem_of_getElem? (i := 145) (by decide +kernel), List.mem_of_getElem? (i := 733) (by decide +kernel), List.mem_of_getElem? (i := 734) (by decide +kernel)⟩
theorem lw_p20 : lw_okq (⟨"WireCodec$Header", "sizeOfName", "(LWireCodec$Reader;I)I"⟩, 1) := ⟨⟨by decide +kernel, by decide +kernel⟩, List.mem_of_getElem? (i := 145) (by decide +kernel), List.mem_of_getElem? (i := 737) (by decide +kernel), List.mem_of_getElem? (i := 738) (by decide +kernel)⟩
theorem lw_p21 : lw_okq (⟨"WireCodec$Header", "parseTokenAndLength", "(LWireCodec$Reader;)I"⟩, 1) := ⟨⟨by decide +kernel, by decide +kernel⟩, List.mem_of_getElem? (i := 145) (by decide +kernel), List.mem_of_getElem? (i := 742) (by decide +kernel), List.mem_of_getElem? (i := 743) (by decide +kernel)⟩
theorem lw_p22 : lw_okq (⟨"WireCodec$Header", "parseShort", "(LWireCodec$Reader;II)I"⟩, 1) := ⟨⟨by decide +kernel, by decide +kernel⟩, List.mem_of_getElem? (i := 145) (by decide +kernel), List.mem_of_getElem? (i := 748) (by decide +kernel), List.mem_of_getElem? (i := 749) (by decide +kernel)⟩
theorem lw_p23 : lw_okq (⟨"WireCodecModel", "forget", "()V"⟩, 26) := ⟨⟨by decide +kernel, by decide +kernel⟩, List.mem_of_getElem? (i := 854) (by decide +kernel), List.mem_of_getElem? (i := 862) (by decide +kernel), List.mem_of_getElem? (i := 863) (by decide +kernel)⟩
theorem lw_p24 : lw_okq (⟨"WireCodecModel", "begin", "()V"⟩, 26) := ⟨⟨by decide +kernel, by decide +kernel⟩, List.mem_of_getElem? (i := 854) (by decide +kernel), List.mem_of_getElem? (i := 866) (by decide +kernel), List.mem_of_getElem? (i := 867) (by decide +kernel)⟩
theorem lw_p25 : lw_okq (⟨"WireCodecModel", "forgetParameters", "()V"⟩, 26) := ⟨⟨by decide +kernel, by decide +kernel⟩, List.mem_of_getElem? (i := 854) (by decide +kernel), List.mem_of_getElem? (i := 870) (by decide +kernel), List.mem_of_getElem? (i := 871) (by decide +kernel)⟩
theorem lw_p26 : lw_okq (⟨"WireCodecModel", "fails", "(ZI)Z"⟩, 26) := ⟨⟨by decide +kernel, by decide +kernel⟩, List.mem_of_getElem? (i := 854) (by decide +kernel), List.mem_of_getElem? (i := 973) (by decide +kernel), List.mem_of_getElem? (i := 974) (by decide +kernel)⟩
theorem lw_p27 : lw_okq (⟨"WireCodecModel", "write", "(JI)V"⟩, 26) := ⟨⟨by decide +kernel, by decide +kernel⟩, List.mem_of_getElem? (i := 854) (by decide +kernel), List.mem_of_getElem? (i := 977) (by decide +kernel), List.mem_of_getElem? (i := 978) (by decide +kernel)⟩
theorem lw_p28 : lw_okq (⟨"WireCodecModel", "writeNumber", "(JI)V"⟩, 26) := ⟨⟨by decide +kernel, by decide +kernel⟩, List.mem_of_getElem? (i := 854) (by decide +kernel), List.mem_of_getElem? (i := 995) (by decide +kernel), List.mem_of_getElem? (i := 996) (by decide +kernel)⟩
theorem lw_p29 : lw_okq (⟨"WireCodecModel", "byteAt", "(I)I"⟩, 26) := ⟨⟨by decide +kernel, by decide +kernel⟩, List.mem_of_getElem? (i := 854) (by decide +kernel), List.mem_of_getElem? (i := 1011) (by decide +kernel), List.mem_of_getElem? (i := 1012) (by decide +kernel)⟩
theorem lw_p30 : lw_okq (⟨"WireCodecModel", "look", "(II)V"⟩, 26) := ⟨⟨by decide +kernel, by decide +kernel⟩, List.mem_of_getElem? (i := 854) (by decide +kernel), List.mem_of_getElem? (i := 1019) (by decide +kernel), List.mem_of_getElem? (i := 1020) (by decide +kernel)⟩
theorem lw_p31 : lw_okq (⟨"WireCodecModel", "takeNumber", "()J"⟩, 26) := ⟨⟨by decide +kernel, by decide +kernel⟩, List.mem_of_getElem? (i := 854) (by decide +kernel), List.mem_of_getElem? (i := 1023) (by decide +kernel), List.mem_of_getElem? (i := 1024) (by decide +kernel)⟩
def lw_privs_2 : List (MethodName × Nat) := [(⟨"WireCodec$Draft", "firstByte", "(I)I"⟩, 6), (⟨"WireCodec$Draft", "writeAck", "(LWireCodec$Tape;I)V"⟩, 6), (⟨"WireCodec$Draft", "writeShape", "(LWireCodec$Tape;I)V"⟩, 6), (⟨"WireCodec$Header", "parseLong", "(LWireCodec$Reader;I)I"⟩, 1), (⟨"WireCodec$Header", "sizeOfName", "(LWireCodec$Reader;I)I"⟩, 1), (⟨"WireCodec$Header", "parseTokenAndLength", "(LWireCodec$Reader;)I"⟩, 1), (⟨"WireCodec$Header", "parseShort", "(LWireCodec$Reader;II)I"⟩, 1), (⟨"WireCodecModel", "forget", "()V"⟩, 26), (⟨"WireCodecModel", "begin", "()V"⟩, 26), (⟨"WireCodecModel", "forgetParameters", "()V"⟩, 26), (⟨"WireCodecModel", "fails", "(ZI)Z"⟩, 26), (⟨"WireCodecModel", "write", "(JI)V"⟩, 26), (⟨"WireCodecModel", "writeNumber", "(JI)V"⟩, 26), (⟨"WireCodecModel", "byteAt", "(I)I"⟩, 26), (⟨"WireCodecModel", "look", "(II)V"⟩, 26), (⟨"WireCodecModel", "takeNumber", "()J"⟩, 26)]
theorem lw_r2 : ∀ q ∈ lw_privs_2, lw_okq q := List.forall_mem_cons.mpr ⟨lw_p16, List.forall_mem_cons.mpr ⟨lw_p17, List.forall_mem_cons.mpr ⟨lw_p18, List.forall_mem_cons.mpr ⟨lw_p19, List.forall_mem_cons.mpr ⟨lw_p20, List.forall_mem_cons.mpr ⟨lw_p21, List.forall_mem_cons.mpr ⟨lw_p22, List.forall_mem_cons.mpr ⟨lw_p23, List.forall_mem_cons.mpr ⟨lw_p24, List.forall_mem_cons.mpr ⟨lw_p25, List.forall_mem_cons.mpr ⟨lw_p26, List.forall_mem_cons.mpr ⟨lw_p27, List.forall_mem_cons.mpr ⟨lw_p28, List.forall_mem_cons.mpr ⟨lw_p29, List.forall_mem_cons.mpr ⟨lw_p30, List.forall_mem_cons.mpr ⟨lw_p31, fun _ h => absurd h List.not_mem_nil⟩⟩⟩⟩⟩⟩⟩⟩⟩⟩⟩⟩⟩⟩⟩⟩
theorem lw_p32 : lw_okq (⟨"WireCodecModel", "take", "(I)J"⟩, 26) := ⟨⟨by decide +kernel, by decide +kernel⟩, List.mem_of_getElem? (i := 854) (by decide +kernel), List.mem_of_getElem? (i := 1027) (by decide +kernel), List.mem_of_getElem? (i := 1028) (by decide +kernel)⟩
theorem lw_p33 : lw_okq (⟨"WireCodecModel", "flaw", "(II)I"⟩, 26) := ⟨⟨by decide +kernel, by decide +kernel⟩, List.mem_of_getElem? (i := 854) (by decide +kernel), List.mem_of_getElem? (i := 1035) (by decide +kernel), List.mem_of_getElem? (i := 1036) (by decide +kernel)⟩
theorem lw_p34 : lw_okq (⟨"WireCodecModel", "kindAt", "(I)I"⟩, 26) := ⟨⟨by decide +kernel, by decide +kernel⟩, List.mem_of_getElem? (i := 854) (by decide +kernel), List.mem_of_getElem? (i := 1039) (by decide +kernel), List.mem_of_getElem? (i := 1040) (by decide +kernel)⟩
theorem lw_p35 : lw_okq (⟨"WireCodecModel", "parse", "(II)V"⟩, 26) := ⟨⟨by decide +kernel, by decide +kernel⟩, List.mem_of_getElem? (i := 854) (by decide +kernel), List.mem_of_getElem? (i := 1043) (by decide +kernel), List.mem_of_getElem? (i := 1044) (by decide +kernel)⟩
theorem lw_p36 : lw_okq (⟨"WireCodecModel", "takePadding", "()V"⟩, 26) := ⟨⟨by decide +kernel, by decide +kernel⟩, List.mem_of_getElem? (i := 854) (by decide +kernel), List.mem_of_getElem? (i := 1047) (by decide +kernel), List.mem_of_getElem? (i := 1048) (by decide +kernel)⟩
theorem lw_p37 : lw_okq (⟨"WireCodecModel", "takeAck", "(I)V"⟩, 26) := ⟨⟨by decide +kernel, by decide +kernel⟩, List.mem_of_getElem? (i := 854) (by decide +kernel), List.mem_of_getElem? (i := 1054) (by decide +kernel), List.mem_of_getElem? (i := 1055) (by decide +kernel)⟩
theorem lw_p38 : lw_okq (⟨"WireCodecModel", "takeStream", "(I)V"⟩, 26) := ⟨⟨by decide +kernel, by decide +kernel⟩, List.mem_of_getElem? (i := 854) (by decide +kernel), List.mem_of_getElem? (i := 1058) (by decide +kernel), List.mem_of_getElem? (i := 1059) (by decide +kernel)⟩
theorem lw_p39 : lw_okq (⟨"WireCodecModel", "takeData", "(J)V"⟩, 26) := ⟨⟨by decide +kernel, by decide +kernel⟩, List.mem_of_getElem? (i := 854) (by decide +kernel), List.mem_of_getElem? (i := 1062) (by decide +kernel), List.mem_of_getElem? (i := 1063) (by decide +kernel)⟩
theorem lw_p40 : lw_okq (⟨"WireCodecModel", "pass", "(J)I"⟩, 26) := ⟨⟨by decide +kernel, by decide +kernel⟩, List.mem_of_getElem? (i := 854) (by decide +kernel), List.mem_of_getElem? (i := 1066) (by decide +kernel), List.mem_of_getElem? (i := 1067) (by decide +kernel)⟩
theorem lw_p41 : lw_okq (⟨"WireCodecModel", "takeName", "()V"⟩, 26) := ⟨⟨by decide +kernel, by decide +kernel⟩, List.mem_of_getElem? (i := 854) (by decide +kernel), List.mem_of_getElem? (i := 1070) (by decide +kernel), List.mem_of_getElem? (i := 1071) (by decide +kernel)⟩
theorem lw_p42 : lw_okq (⟨"WireCodecModel", "takeFields", "(I)V"⟩, 26) := ⟨⟨by decide +kernel, by decide +kernel⟩, List.mem_of_getElem? (i := 854) (by decide +kernel), List.mem_of_getElem? (i := 1074) (by decide +kernel), List.mem_of_getElem? (i := 1075) (by decide +kernel)⟩
theorem lw_p43 : lw_okq (⟨"WireCodecModel", "isRight", "(I)Z"⟩, 26) := ⟨⟨by decide +kernel, by decide +kernel⟩, List.mem_of_getElem? (i := 854) (by decide +kernel), List.mem_of_getElem? (i := 1082) (by decide +kernel), List.mem_of_getElem? (i := 1083) (by decide +kernel)⟩
theorem lw_p44 : lw_okq (⟨"WireCodecModel", "edge", "(IZ)J"⟩, 26) := ⟨⟨by decide +kernel, by decide +kernel⟩, List.mem_of_getElem? (i := 854) (by decide +kernel), List.mem_of_getElem? (i := 1086) (by decide +kernel), List.mem_of_getElem? (i := 1087) (by decide +kernel)⟩
theorem lw_p45 : lw_okq (⟨"WireCodecModel", "tell", "(II)V"⟩, 26) := ⟨⟨by decide +kernel, by decide +kernel⟩, List.mem_of_getElem? (i := 854) (by decide +kernel), List.mem_of_getElem? (i := 1091) (by decide +kernel), List.mem_of_getElem? (i := 1092) (by decide +kernel)⟩
theorem lw_p46 : lw_okq (⟨"WireCodecModel", "parsed", "(I)Z"⟩, 26) := ⟨⟨by decide +kernel, by decide +kernel⟩, List.mem_of_getElem? (i := 854) (by decide +kernel), List.mem_of_getElem? (i := 1104) (by decide +kernel), List.mem_of_getElem? (i := 1105) (by decide +kernel)⟩
theorem lw_p47 : lw_okq (⟨"WireCodecModel", "suits", "(I)Z"⟩, 26) := ⟨⟨by decide +kernel, by decide +kernel⟩, List.mem_of_getElem? (i := 854) (by decide +kernel), List.mem_of_getElem? (i := 1138) (by decide +kernel), List.mem_of_getElem? (i := 1139) (by decide +kernel)⟩
def lw_privs_3 : List (MethodName × Nat) := [(⟨"WireCodecModel", "take", "(I)J"⟩, 26), (⟨"WireCodecModel", "flaw", "(II)I"⟩, 26), (⟨"WireCodecModel", "kindAt", "(I)I"⟩, 26), (⟨"WireCodecModel", "parse", "(II)V"⟩, 26), (⟨"WireCodecModel", "takePadding", "()V"⟩, 26), (⟨"WireCodecModel", "takeAck", "(I)V"⟩, 26), (⟨"WireCodecModel", "takeStream", "(I)V"⟩, 26), (⟨"WireCodecModel", "takeData", "(J)V"⟩, 26), (⟨"WireCodecModel", "pass", "(J)I"⟩, 26), (⟨"WireCodecModel", "takeName", "()V"⟩, 26), (⟨"WireCodecModel", "takeFields", "(I)V"⟩, 26), (⟨"WireCodecModel", "isRight", "(I)Z"⟩, 26), (⟨"WireCodecModel", "edge", "(IZ)J"⟩, 26), (⟨"WireCodecModel", "tell", "(II)V"⟩, 26), (⟨"WireCodecModel", "parsed", "(I)Z"⟩, 26), (⟨"WireCodecModel", "suits", "(I)Z"⟩, 26)]
theorem lw_r3 : ∀ q ∈ lw_privs_3, lw_okq q := List.forall_mem_cons.mpr ⟨lw_p32, List.forall_mem_cons.mpr ⟨lw_p33, List.forall_mem_cons.mpr ⟨lw_p34, List.forall_mem_cons.mpr ⟨lw_p35, List.forall_mem_cons.mpr ⟨lw_p36, List.forall_mem_cons.mpr ⟨lw_p37, List.forall_mem_cons.mpr ⟨lw_p38, List.forall_mem_cons.mpr ⟨lw_p39, List.forall_mem_cons.mpr ⟨lw_p40, List.forall_mem_cons.mpr ⟨lw_p41, List.forall_mem_cons.mpr ⟨lw_p42, List.forall_mem_cons.mpr ⟨lw_p43, List.forall_mem_cons.mpr ⟨lw_p44, List.forall_mem_cons.mpr ⟨lw_p45, List.forall_mem_cons.mpr ⟨lw_p46, List.forall_mem_cons.mpr ⟨lw_p47, fun _ h => absurd h List.not_mem_nil⟩⟩⟩⟩⟩⟩⟩⟩⟩⟩⟩⟩⟩⟩⟩⟩
theorem lw_p48 : lw_okq (⟨"WireCodecModel", "sizeOf", "(I)I"⟩, 26) := ⟨⟨by decide +kernel, by decide +kernel⟩, List.mem_of_getElem? (i := 854) (by decide +kernel), List.mem_of_getElem? (i := 1145) (by decide +kernel), List.mem_of_getElem? (i := 1146) (by decide +kernel)⟩
theorem lw_p49 : lw_okq (⟨"WireCodecModel", "writeAck", "(I)V"⟩, 26) := ⟨⟨by decide +kernel, by decide +kernel⟩, List.mem_of_getElem? (i := 854) (by decide +kernel), List.mem_of_getElem? (i := 1149) (by decide +kernel), List.mem_of_getElem? (i := 1150) (by decide +kernel)⟩
theorem lw_p50 : lw_okq (⟨"WireCodecModel", "writeStream", "()V"⟩, 26) := ⟨⟨by decide +kernel, by decide +kernel⟩, List.mem_of_getElem? (i := 854) (by decide +kernel), List.mem_of_getElem? (i := 1153) (by decide +kernel), List.mem_of_getElem? (i := 1154) (by decide +kernel)⟩
theorem lw_p51 : lw_okq (⟨"WireCodecModel", "writeGiven", "(I)V"⟩, 26) := ⟨⟨by decide +kernel, by decide +kernel⟩, List.mem_of_getElem? (i := 854) (by decide +kernel), List.mem_of_getElem? (i := 1157) (by decide +kernel), List.mem_of_getElem? (i := 1158) (by decide +kernel)⟩
theorem lw_p52 : lw_okq (⟨"WireCodecModel", "writeFields", "(I)V"⟩, 26) := ⟨⟨by decide +kernel, by decide +kernel⟩, List.mem_of_getElem? (i := 854) (by decide +kernel), List.mem_of_getElem? (i := 1161) (by decide +kernel), List.mem_of_getElem? (i := 1162) (by decide +kernel)⟩
theorem lw_p53 : lw_okq (⟨"WireCodecModel", "headerFlaw", "(II)I"⟩, 26) := ⟨⟨by decide +kernel, by decide +kernel⟩, List.mem_of_getElem? (i := 854) (by decide +kernel), List.mem_of_getElem? (i := 1170) (by decide +kernel), List.mem_of_getElem? (i := 1171) (by decide +kernel)⟩
theorem lw_p54 : lw_okq (⟨"WireCodecModel", "note", "(II)V"⟩, 26) := ⟨⟨by decide +kernel, by decide +kernel⟩, List.mem_of_getElem? (i := 854) (by decide +kernel), List.mem_of_getElem? (i := 1174) (by decide +kernel), List.mem_of_getElem? (i := 1175) (by decide +kernel)⟩
theorem lw_p55 : lw_okq (⟨"WireCodecModel", "shortFlaw", "(II)I"⟩, 26) := ⟨⟨by decide +kernel, by decide +kernel⟩, List.mem_of_getElem? (i := 854) (by decide +kernel), List.mem_of_getElem? (i := 1178) (by decide +kernel), List.mem_of_getElem? (i := 1179) (by decide +kernel)⟩
theorem lw_p56 : lw_okq (⟨"WireCodecModel", "longFlaw", "(I)I"⟩, 26) := ⟨⟨by decide +kernel, by decide +kernel⟩, List.mem_of_getElem? (i := 854) (by decide +kernel), List.mem_of_getElem? (i := 1182) (by decide +kernel), List.mem_of_getElem? (i := 1183) (by decide +kernel)⟩
theorem lw_p57 : lw_okq (⟨"WireCodecModel", "takeConnection", "(I)I"⟩, 26) := ⟨⟨by decide +kernel, by decide +kernel⟩, List.mem_of_getElem? (i := 854) (by decide +kernel), List.mem_of_getElem? (i := 1186) (by decide +kernel), List.mem_of_getElem? (i := 1187) (by decide +kernel)⟩
theorem lw_p58 : lw_okq (⟨"WireCodecModel", "isSame", "()Z"⟩, 26) := ⟨⟨by decide +kernel, by decide +kernel⟩, List.mem_of_getElem? (i := 854) (by decide +kernel), List.mem_of_getElem? (i := 1194) (by decide +kernel), List.mem_of_getElem? (i := 1195) (by decide +kernel)⟩
theorem lw_p59 : lw_okq (⟨"WireCodecModel", "parameterFlaw", "(ZI)I"⟩, 26) := ⟨⟨by decide +kernel, by decide +kernel⟩, List.mem_of_getElem? (i := 854) (by decide +kernel), List.mem_of_getElem? (i := 1222) (by decide +kernel), List.mem_of_getElem? (i := 1223) (by decide +kernel)⟩
theorem lw_p60 : lw_okq (⟨"WireCodecModel", "suitsId", "(III)Z"⟩, 26) := ⟨⟨by decide +kernel, by decide +kernel⟩, List.mem_of_getElem? (i := 854) (by decide +kernel), List.mem_of_getElem? (i := 1226) (by decide +kernel), List.mem_of_getElem? (i := 1227) (by decide +kernel)⟩
def lw_privs_4 : List (MethodName × Nat) := [(⟨"WireCodecModel", "sizeOf", "(I)I"⟩, 26), (⟨"WireCodecModel", "writeAck", "(I)V"⟩, 26), (⟨"WireCodecModel", "writeStream", "()V"⟩, 26), (⟨"WireCodecModel", "writeGiven", "(I)V"⟩, 26), (⟨"WireCodecModel", "writeFields", "(I)V"⟩, 26), (⟨"WireCodecModel", "headerFlaw", "(II)I"⟩, 26), (⟨"WireCodecModel", "note", "(II)V"⟩, 26), (⟨"WireCodecModel", "shortFlaw", "(II)I"⟩, 26), (⟨"WireCodecModel", "longFlaw", "(I)I"⟩, 26), (⟨"WireCodecModel", "takeConnection", "(I)I"⟩, 26), (⟨"WireCodecModel", "isSame", "()Z"⟩, 26), (⟨"WireCodecModel", "parameterFlaw", "(ZI)I"⟩, 26), (⟨"WireCodecModel", "suitsId", "(III)Z"⟩, 26)]
theorem lw_r4 : ∀ q ∈ lw_privs_4, lw_okq q := List.forall_mem_cons.mpr ⟨lw_p48, List.forall_mem_cons.mpr ⟨lw_p49, List.forall_mem_cons.mpr ⟨lw_p50, List.forall_mem_cons.mpr ⟨lw_p51, List.forall_mem_cons.mpr ⟨lw_p52, List.forall_mem_cons.mpr ⟨lw_p53, List.forall_mem_cons.mpr ⟨lw_p54, List.forall_mem_cons.mpr ⟨lw_p55, List.forall_mem_cons.mpr ⟨lw_p56, List.forall_mem_cons.mpr ⟨lw_p57, List.forall_mem_cons.mpr ⟨lw_p58, List.forall_mem_cons.mpr ⟨lw_p59, List.forall_mem_cons.mpr ⟨lw_p60, fun _ h => absurd h List.not_mem_nil⟩⟩⟩⟩⟩⟩⟩⟩⟩⟩⟩⟩⟩
def lw_privs : List (MethodName × Nat) := lw_privs_1 ++ (lw_privs_2 ++ (lw_privs_3 ++ (lw_privs_4)))
def lw_tbl : List Cond := k2_sels lw_privs ++ tables_1
theorem lw_privs_ok : ∀ q ∈ lw_privs, lw_okq q := by
  show ∀ q ∈ lw_privs_1 ++ (lw_privs_2 ++ (lw_privs_3 ++ (lw_privs_4))), lw_okq q
  exact List.forall_mem_append.mpr ⟨lw_r1, List.forall_mem_append.mpr ⟨lw_r2, List.forall_mem_append.mpr ⟨lw_r3, lw_r4⟩⟩⟩
end
section
def R_W : String := "WireCodec"
def F_W : u_T := fun k => match k with
  | 0 => ("WireCodec", "tape", "LWireCodec$Tape;", true)
  | 1 => ("WireCodec", "reader", "LWireCodec$Reader;", true)
  | 2 => ("WireCodec", "reading", "LWireCodec$Reading;", true)
  | 3 => ("WireCodec", "loadedFrame", "LWireCodec$Frame;", true)
  | 4 => ("WireCodec", "loadedHeader", "LWireCodec$Header;", true)
  | 5 => ("WireCodec", "drafted", "LWireCodec$Draft;", true)
  | _ => ("WireCodec", "told", "LWireCodec$Parameters;", true)
def zty_W : Nat → FieldType := fun k => match k with
  | 0 => .object "WireCodec$Tape"
  | 1 => .object "WireCodec$Reader"
  | 2 => .object "WireCodec$Reading"
  | 3 => .object "WireCodec$Frame"
  | 4 => .object "WireCodec$Header"
  | 5 => .object "WireCodec$Draft"
  | _ => .object "WireCodec$Parameters"
theorem znm_W : ∀ a, a < 7 → ∀ b, b < 7 → a ≠ b → (F_W a).2.1 ≠ (F_W b).2.1 := by decide +kernel
theorem zty_W_ok : ∀ k, k < 7 → parseFieldDescriptor (F_W k).2.2.1 = some (zty_W k) := by decide +kernel
def R_T : String := "WireCodec$Tape"
def F_T : u_T := fun k => match k with
  | 0 => ("WireCodec$Tape", "bytes", "[B", false)
  | 1 => ("WireCodec$Tape", "cursor", "I", false)
  | _ => ("WireCodec$Tape", "length", "I", false)
def zty_T : Nat → FieldType := fun k => match k with
  | 0 => .array .byte
  | 1 => .int
  | _ => .int
theorem znm_T : ∀ a, a < 3 → ∀ b, b < 3 → a ≠ b → (F_T a).2.1 ≠ (F_T b).2.1 := by decide +kernel
theorem zty_T_ok : ∀ k, k < 3 → parseFieldDescriptor (F_T k).2.2.1 = some (zty_T k) := by decide +kernel
def R_R : String := "WireCodec$Reader"
def F_R : u_T := fun k => match k with
  | 0 => ("WireCodec$Reader", "tape", "LWireCodec$Tape;", true)
  | 1 => ("WireCodec$Reader", "place", "I", false)
  | 2 => ("WireCodec$Reader", "limit", "I", false)
  | _ => ("WireCodec$Reader", "over", "Z", false)
def zty_R : Nat → FieldType := fun k => match k with
  | 0 => .object "WireCodec$Tape"
  | 1 => .int
  | 2 => .int
  | _ => .boolean
theorem znm_R : ∀ a, a < 4 → ∀ b, b < 4 → a ≠ b → (F_R a).2.1 ≠ (F_R b).2.1 := by decide +kernel
theorem zty_R_ok : ∀ k, k < 4 → parseFieldDescriptor (F_R k).2.2.1 = some (zty_R k) := by decide +kernel
def R_G : String := "WireCodec$Reading"
def F_G : u_T := fun k => match k with
  | 0 => ("WireCodec$Reading", "places", "[I", false)
  | 1 => ("WireCodec$Reading", "frameCount", "I", false)
  | 2 => ("WireCodec$Reading", "packetCount", "I", false)
  | 3 => ("WireCodec$Reading", "limit", "I", false)
  | 4 => ("WireCodec$Reading", "names", "I", false)
  | 5 => ("WireCodec$Reading", "wrong", "I", false)
  | _ => ("WireCodec$Reading", "wrongPlace", "I", false)
def zty_G : Nat → FieldType := fun k => match k with
  | 0 => .array .int
  | 1 => .int
  | 2 => .int
  | 3 => .int
  | 4 => .int
  | 5 => .int
  | _ => .int
theorem znm_G : ∀ a, a < 7 → ∀ b, b < 7 → a ≠ b → (F_G a).2.1 ≠ (F_G b).2.1 := by decide +kernel
theorem zty_G_ok : ∀ k, k < 7 → parseFieldDescriptor (F_G k).2.2.1 = some (zty_G k) := by decide +kernel
def R_F : String := "WireCodec$Frame"
def F_F : u_T := fun k => match k with
  | 0 => ("WireCodec$Frame", "parts", "[J", true)
  | 1 => ("WireCodec$Frame", "dataPlace", "I", false)
  | 2 => ("WireCodec$Frame", "secretPlace", "I", false)
  | 3 => ("WireCodec$Frame", "secretBytes", "I", false)
  | 4 => ("WireCodec$Frame", "rangesPlace", "I", false)
  | 5 => ("WireCodec$Frame", "low", "J", false)
  | _ => ("WireCodec$Frame", "high", "J", false)
def zty_F : Nat → FieldType := fun k => match k with
  | 0 => .array .long
  | 1 => .int
  | 2 => .int
  | 3 => .int
  | 4 => .int
  | 5 => .long
  | _ => .long
theorem znm_F : ∀ a, a < 7 → ∀ b, b < 7 → a ≠ b → (F_F a).2.1 ≠ (F_F b).2.1 := by decide +kernel
theorem zty_F_ok : ∀ k, k < 7 → parseFieldDescriptor (F_F k).2.2.1 = some (zty_F k) := by decide +kernel
def R_H : String := "WireCodec$Header"
def F_H : u_T := fun k => match k with
  | _ => ("WireCodec$Header", "parts", "[I", true)
def zty_H : Nat → FieldType := fun k => match k with
  | _ => .array .int
theorem znm_H : ∀ a, a < 1 → ∀ b, b < 1 → a ≠ b → (F_H a).2.1 ≠ (F_H b).2.1 := by decide +kernel
theorem zty_H_ok : ∀ k, k < 1 → parseFieldDescriptor (F_H k).2.2.1 = some (zty_H k) := by decide +kernel
def R_D : String := "WireCodec$Draft"
def F_D : u_T := fun k => match k with
  | 0 => ("WireCodec$Draft", "parts", "[J", true)
  | 1 => ("WireCodec$Draft", "bytes", "[B", true)
  | 2 => ("WireCodec$Draft", "lows", "[J", true)
  | 3 => ("WireCodec$Draft", "highs", "[J", true)
  | 4 => ("WireCodec$Draft", "length", "I", false)
  | _ => ("WireCodec$Draft", "ranges", "I", false)
def zty_D : Nat → FieldType := fun k => match k with
  | 0 => .array .long
  | 1 => .array .byte
  | 2 => .array .long
  | 3 => .array .long
  | 4 => .int
  | _ => .int
theorem znm_D : ∀ a, a < 6 → ∀ b, b < 6 → a ≠ b → (F_D a).2.1 ≠ (F_D b).2.1 := by decide +kernel
theorem zty_D_ok : ∀ k, k < 6 → parseFieldDescriptor (F_D k).2.2.1 = some (zty_D k) := by decide +kernel
def R_P : String := "WireCodec$Parameters"
def F_P : u_T := fun k => match k with
  | 0 => ("WireCodec$Parameters", "values", "[J", true)
  | _ => ("WireCodec$Parameters", "seen", "I", false)
def zty_P : Nat → FieldType := fun k => match k with
  | 0 => .array .long
  | _ => .int
theorem znm_P : ∀ a, a < 2 → ∀ b, b < 2 → a ≠ b → (F_P a).2.1 ≠ (F_P b).2.1 := by decide +kernel
theorem zty_P_ok : ∀ k, k < 2 → parseFieldDescriptor (F_P k).2.2.1 = some (zty_P k) := by decide +kernel
def R_M : String := "WireCodecModel"
def F_M : u_T := fun k => match k with
  | 0 => ("WireCodecModel", "thrown", "I", false)
  | 1 => ("WireCodecModel", "tape", "[B", true)
  | 2 => ("WireCodecModel", "size", "I", false)
  | 3 => ("WireCodecModel", "fault", "I", false)
  | 4 => ("WireCodecModel", "faultAt", "I", false)
  | 5 => ("WireCodecModel", "frames", "I", false)
  | 6 => ("WireCodecModel", "frameAt", "[I", true)
  | 7 => ("WireCodecModel", "framesEnd", "I", false)
  | 8 => ("WireCodecModel", "field", "[J", true)
  | 9 => ("WireCodecModel", "dataAt", "I", false)
  | 10 => ("WireCodecModel", "dataSize", "I", false)
  | 11 => ("WireCodecModel", "secretAt", "I", false)
  | 12 => ("WireCodecModel", "ranges", "I", false)
  | 13 => ("WireCodecModel", "rangesAt", "I", false)
  | 14 => ("WireCodecModel", "at", "I", false)
  | 15 => ("WireCodecModel", "over", "Z", false)
  | 16 => ("WireCodecModel", "end", "I", false)
  | 17 => ("WireCodecModel", "draft", "[J", true)
  | 18 => ("WireCodecModel", "given", "[B", true)
  | 19 => ("WireCodecModel", "gives", "I", false)
  | 20 => ("WireCodecModel", "low", "[J", true)
  | 21 => ("WireCodecModel", "high", "[J", true)
  | 22 => ("WireCodecModel", "spans", "I", false)
  | 23 => ("WireCodecModel", "packets", "I", false)
  | 24 => ("WireCodecModel", "packet", "[I", true)
  | _ => ("WireCodecModel", "known", "[J", true)
def zty_M : Nat → FieldType := fun k => match k with
  | 0 => .int
  | 1 => .array .byte
  | 2 => .int
  | 3 => .int
  | 4 => .int
  | 5 => .int
  | 6 => .array .int
  | 7 => .int
  | 8 => .array .long
  | 9 => .int
  | 10 => .int
  | 11 => .int
  | 12 => .int
  | 13 => .int
  | 14 => .int
  | 15 => .boolean
  | 16 => .int
  | 17 => .array .long
  | 18 => .array .byte
  | 19 => .int
  | 20 => .array .long
  | 21 => .array .long
  | 22 => .int
  | 23 => .int
  | 24 => .array .int
  | _ => .array .long
theorem znm_M : ∀ a, a < 26 → ∀ b, b < 26 → a ≠ b → (F_M a).2.1 ≠ (F_M b).2.1 := by decide +kernel
theorem zty_M_ok : ∀ k, k < 26 → parseFieldDescriptor (F_M k).2.2.1 = some (zty_M k) := by decide +kernel
def R_Ar : String := "java/util/Arrays"
def R_In : String := "java/lang/Integer"
def R_Ma : String := "java/lang/Math"
def R_L : String := "WireCodecLaw"
abbrev b_W_init : ByteArray := prog_1_method_1_code
def y_W_init : MethodName := ⟨R_W, "<init>", "()V"⟩
abbrev b_W_feed : ByteArray := prog_1_method_2_code
def y_W_feed : MethodName := ⟨R_W, "feed", "(JI)I"⟩
abbrev b_W_number : ByteArray := prog_1_method_3_code
def y_W_number : MethodName := ⟨R_W, "number", "(JI)I"⟩
abbrev b_W_clear : ByteArray := prog_1_method_4_code
def y_W_clear : MethodName := ⟨R_W, "clear", "()I"⟩
abbrev b_W_size : ByteArray := prog_1_method_5_code
def y_W_size : MethodName := ⟨R_W, "size", "()I"⟩
abbrev b_W_at : ByteArray := prog_1_method_6_code
def y_W_at : MethodName := ⟨R_W, "at", "(I)I"⟩
abbrev b_W_read : ByteArray := prog_1_method_7_code
def y_W_read : MethodName := ⟨R_W, "read", "(I)J"⟩
abbrev b_W_frames : ByteArray := prog_1_method_8_code
def y_W_frames : MethodName := ⟨R_W, "frames", "(II)I"⟩
abbrev b_W_fault : ByteArray := prog_1_method_9_code
def y_W_fault : MethodName := ⟨R_W, "fault", "(Z)I"⟩
abbrev b_W_frame : ByteArray := prog_1_method_10_code
def y_W_frame : MethodName := ⟨R_W, "frame", "(II)J"⟩
abbrev b_W_data : ByteArray := prog_1_method_11_code
def y_W_data : MethodName := ⟨R_W, "data", "(IIZ)I"⟩
abbrev b_W_range : ByteArray := prog_1_method_12_code
def y_W_range : MethodName := ⟨R_W, "range", "(IIZ)J"⟩
abbrev b_W_draft : ByteArray := prog_1_method_13_code
def y_W_draft : MethodName := ⟨R_W, "draft", "()V"⟩
abbrev b_W_set : ByteArray := prog_1_method_14_code
def y_W_set : MethodName := ⟨R_W, "set", "(IJ)V"⟩
abbrev b_W_add : ByteArray := prog_1_method_15_code
def y_W_add : MethodName := ⟨R_W, "add", "(JI)I"⟩
abbrev b_W_span : ByteArray := prog_1_method_16_code
def y_W_span : MethodName := ⟨R_W, "span", "(JJ)V"⟩
abbrev b_W_put : ByteArray := prog_1_method_17_code
def y_W_put : MethodName := ⟨R_W, "put", "(I)I"⟩
abbrev b_W_head : ByteArray := prog_1_method_18_code
def y_W_head : MethodName := ⟨R_W, "head", "(II)I"⟩
abbrev b_W_datagram : ByteArray := prog_1_method_19_code
def y_W_datagram : MethodName := ⟨R_W, "datagram", "(II)I"⟩
abbrev b_W_packet : ByteArray := prog_1_method_20_code
def y_W_packet : MethodName := ⟨R_W, "packet", "(II)J"⟩
abbrev b_W_lead : ByteArray := prog_1_method_21_code
def y_W_lead : MethodName := ⟨R_W, "lead", "(IIIII)I"⟩
abbrev b_W_cut : ByteArray := prog_1_method_22_code
def y_W_cut : MethodName := ⟨R_W, "cut", "(JJ)I"⟩
abbrev b_W_grow : ByteArray := prog_1_method_23_code
def y_W_grow : MethodName := ⟨R_W, "grow", "(JJI)J"⟩
abbrev b_W_parameters : ByteArray := prog_1_method_24_code
def y_W_parameters : MethodName := ⟨R_W, "parameters", "(IZ)I"⟩
abbrev b_W_parameter : ByteArray := prog_1_method_25_code
def y_W_parameter : MethodName := ⟨R_W, "parameter", "(I)J"⟩
abbrev b_W_keepWritten : ByteArray := prog_1_method_26_code
def y_W_keepWritten : MethodName := ⟨R_W, "keepWritten", "()I"⟩
abbrev b_W_requireByte : ByteArray := prog_1_method_27_code
def y_W_requireByte : MethodName := ⟨R_W, "requireByte", "(I)V"⟩
abbrev b_W_requirePlace : ByteArray := prog_1_method_28_code
def y_W_requirePlace : MethodName := ⟨R_W, "requirePlace", "(I)V"⟩
abbrev b_W_requireNames : ByteArray := prog_1_method_29_code
def y_W_requireNames : MethodName := ⟨R_W, "requireNames", "(I)V"⟩
abbrev b_W_startAtFrame : ByteArray := prog_1_method_30_code
def y_W_startAtFrame : MethodName := ⟨R_W, "startAtFrame", "(I)V"⟩
abbrev b_W_isNumber : ByteArray := prog_1_method_31_code
def y_W_isNumber : MethodName := ⟨R_W, "isNumber", "(J)Z"⟩
abbrev b_W_isNumberOrNone : ByteArray := prog_1_method_32_code
def y_W_isNumberOrNone : MethodName := ⟨R_W, "isNumberOrNone", "(J)Z"⟩
abbrev b_W_isNumberSize : ByteArray := prog_1_method_33_code
def y_W_isNumberSize : MethodName := ⟨R_W, "isNumberSize", "(I)Z"⟩
abbrev b_W_fewestBytes : ByteArray := prog_1_method_34_code
def y_W_fewestBytes : MethodName := ⟨R_W, "fewestBytes", "(J)I"⟩
abbrev b_W_fieldsHold : ByteArray := prog_1_method_35_code
def y_W_fieldsHold : MethodName := ⟨R_W, "fieldsHold", "(IJJJ)Z"⟩
abbrev b_M_init : ByteArray := prog_10_method_1_code
def y_M_init : MethodName := ⟨R_M, "<init>", "()V"⟩
abbrev b_M_thrown : ByteArray := prog_10_method_2_code
def y_M_thrown : MethodName := ⟨R_M, "thrown", "()I"⟩
abbrev b_M_fails : ByteArray := prog_10_method_3_code
def y_M_fails : MethodName := ⟨R_M, "fails", "(ZI)Z"⟩
abbrev b_M_within : ByteArray := prog_10_method_4_code
def y_M_within : MethodName := ⟨R_M, "within", "(JJJ)Z"⟩
abbrev b_M_isNumber : ByteArray := prog_10_method_5_code
def y_M_isNumber : MethodName := ⟨R_M, "isNumber", "(J)Z"⟩
abbrev b_M_byteAt : ByteArray := prog_10_method_6_code
def y_M_byteAt : MethodName := ⟨R_M, "byteAt", "(I)I"⟩
abbrev b_M_write : ByteArray := prog_10_method_7_code
def y_M_write : MethodName := ⟨R_M, "write", "(JI)V"⟩
abbrev b_M_feed : ByteArray := prog_10_method_8_code
def y_M_feed : MethodName := ⟨R_M, "feed", "(JI)I"⟩
abbrev b_M_needs : ByteArray := prog_10_method_9_code
def y_M_needs : MethodName := ⟨R_M, "needs", "(J)I"⟩
abbrev b_M_writeNumber : ByteArray := prog_10_method_10_code
def y_M_writeNumber : MethodName := ⟨R_M, "writeNumber", "(JI)V"⟩
abbrev b_M_number : ByteArray := prog_10_method_11_code
def y_M_number : MethodName := ⟨R_M, "number", "(JI)I"⟩
abbrev b_M_begin : ByteArray := prog_10_method_12_code
def y_M_begin : MethodName := ⟨R_M, "begin", "()V"⟩
abbrev b_M_forget : ByteArray := prog_10_method_13_code
def y_M_forget : MethodName := ⟨R_M, "forget", "()V"⟩
abbrev b_M_clear : ByteArray := prog_10_method_14_code
def y_M_clear : MethodName := ⟨R_M, "clear", "()I"⟩
abbrev b_M_size : ByteArray := prog_10_method_15_code
def y_M_size : MethodName := ⟨R_M, "size", "()I"⟩
abbrev b_M_at : ByteArray := prog_10_method_16_code
def y_M_at : MethodName := ⟨R_M, "at", "(I)I"⟩
abbrev b_M_look : ByteArray := prog_10_method_17_code
def y_M_look : MethodName := ⟨R_M, "look", "(II)V"⟩
abbrev b_M_take : ByteArray := prog_10_method_18_code
def y_M_take : MethodName := ⟨R_M, "take", "(I)J"⟩
abbrev b_M_takeNumber : ByteArray := prog_10_method_19_code
def y_M_takeNumber : MethodName := ⟨R_M, "takeNumber", "()J"⟩
abbrev b_M_pass : ByteArray := prog_10_method_20_code
def y_M_pass : MethodName := ⟨R_M, "pass", "(J)I"⟩
abbrev b_M_read : ByteArray := prog_10_method_21_code
def y_M_read : MethodName := ⟨R_M, "read", "(I)J"⟩
abbrev b_M_isAck : ByteArray := prog_10_method_22_code
def y_M_isAck : MethodName := ⟨R_M, "isAck", "(I)Z"⟩
abbrev b_M_fields : ByteArray := prog_10_method_23_code
def y_M_fields : MethodName := ⟨R_M, "fields", "(I)I"⟩
abbrev b_M_takeFields : ByteArray := prog_10_method_24_code
def y_M_takeFields : MethodName := ⟨R_M, "takeFields", "(I)V"⟩
abbrev b_M_takeData : ByteArray := prog_10_method_25_code
def y_M_takeData : MethodName := ⟨R_M, "takeData", "(J)V"⟩
abbrev b_M_takeStream : ByteArray := prog_10_method_26_code
def y_M_takeStream : MethodName := ⟨R_M, "takeStream", "(I)V"⟩
abbrev b_M_takeAck : ByteArray := prog_10_method_27_code
def y_M_takeAck : MethodName := ⟨R_M, "takeAck", "(I)V"⟩
abbrev b_M_takeName : ByteArray := prog_10_method_28_code
def y_M_takeName : MethodName := ⟨R_M, "takeName", "()V"⟩
abbrev b_M_takePadding : ByteArray := prog_10_method_29_code
def y_M_takePadding : MethodName := ⟨R_M, "takePadding", "()V"⟩
abbrev b_M_kindAt : ByteArray := prog_10_method_30_code
def y_M_kindAt : MethodName := ⟨R_M, "kindAt", "(I)I"⟩
abbrev b_M_parse : ByteArray := prog_10_method_31_code
def y_M_parse : MethodName := ⟨R_M, "parse", "(II)V"⟩
abbrev b_M_edge : ByteArray := prog_10_method_32_code
def y_M_edge : MethodName := ⟨R_M, "edge", "(IZ)J"⟩
abbrev b_M_isRight : ByteArray := prog_10_method_33_code
def y_M_isRight : MethodName := ⟨R_M, "isRight", "(I)Z"⟩
abbrev b_M_flaw : ByteArray := prog_10_method_34_code
def y_M_flaw : MethodName := ⟨R_M, "flaw", "(II)I"⟩
abbrev b_M_tell : ByteArray := prog_10_method_35_code
def y_M_tell : MethodName := ⟨R_M, "tell", "(II)V"⟩
abbrev b_M_frames : ByteArray := prog_10_method_36_code
def y_M_frames : MethodName := ⟨R_M, "frames", "(II)I"⟩
abbrev b_M_fault : ByteArray := prog_10_method_37_code
def y_M_fault : MethodName := ⟨R_M, "fault", "(Z)I"⟩
abbrev b_M_parsed : ByteArray := prog_10_method_38_code
def y_M_parsed : MethodName := ⟨R_M, "parsed", "(I)Z"⟩
abbrev b_M_frame : ByteArray := prog_10_method_39_code
def y_M_frame : MethodName := ⟨R_M, "frame", "(II)J"⟩
abbrev b_M_data : ByteArray := prog_10_method_40_code
def y_M_data : MethodName := ⟨R_M, "data", "(IIZ)I"⟩
abbrev b_M_range : ByteArray := prog_10_method_41_code
def y_M_range : MethodName := ⟨R_M, "range", "(IIZ)J"⟩
abbrev b_M_draft : ByteArray := prog_10_method_42_code
def y_M_draft : MethodName := ⟨R_M, "draft", "()V"⟩
abbrev b_M_set : ByteArray := prog_10_method_43_code
def y_M_set : MethodName := ⟨R_M, "set", "(IJ)V"⟩
abbrev b_M_add : ByteArray := prog_10_method_44_code
def y_M_add : MethodName := ⟨R_M, "add", "(JI)I"⟩
abbrev b_M_span : ByteArray := prog_10_method_45_code
def y_M_span : MethodName := ⟨R_M, "span", "(JJ)V"⟩
abbrev b_M_suits : ByteArray := prog_10_method_46_code
def y_M_suits : MethodName := ⟨R_M, "suits", "(I)Z"⟩
abbrev b_M_writeGiven : ByteArray := prog_10_method_47_code
def y_M_writeGiven : MethodName := ⟨R_M, "writeGiven", "(I)V"⟩
abbrev b_M_sizeOf : ByteArray := prog_10_method_48_code
def y_M_sizeOf : MethodName := ⟨R_M, "sizeOf", "(I)I"⟩
abbrev b_M_writeAck : ByteArray := prog_10_method_49_code
def y_M_writeAck : MethodName := ⟨R_M, "writeAck", "(I)V"⟩
abbrev b_M_writeStream : ByteArray := prog_10_method_50_code
def y_M_writeStream : MethodName := ⟨R_M, "writeStream", "()V"⟩
abbrev b_M_writeFields : ByteArray := prog_10_method_51_code
def y_M_writeFields : MethodName := ⟨R_M, "writeFields", "(I)V"⟩
abbrev b_M_put : ByteArray := prog_10_method_52_code
def y_M_put : MethodName := ⟨R_M, "put", "(I)I"⟩
abbrev b_M_note : ByteArray := prog_10_method_53_code
def y_M_note : MethodName := ⟨R_M, "note", "(II)V"⟩
abbrev b_M_takeConnection : ByteArray := prog_10_method_54_code
def y_M_takeConnection : MethodName := ⟨R_M, "takeConnection", "(I)I"⟩
abbrev b_M_headerFlaw : ByteArray := prog_10_method_55_code
def y_M_headerFlaw : MethodName := ⟨R_M, "headerFlaw", "(II)I"⟩
abbrev b_M_shortFlaw : ByteArray := prog_10_method_56_code
def y_M_shortFlaw : MethodName := ⟨R_M, "shortFlaw", "(II)I"⟩
abbrev b_M_longFlaw : ByteArray := prog_10_method_57_code
def y_M_longFlaw : MethodName := ⟨R_M, "longFlaw", "(I)I"⟩
abbrev b_M_head : ByteArray := prog_10_method_58_code
def y_M_head : MethodName := ⟨R_M, "head", "(II)I"⟩
abbrev b_M_isSame : ByteArray := prog_10_method_59_code
def y_M_isSame : MethodName := ⟨R_M, "isSame", "()Z"⟩
abbrev b_M_datagram : ByteArray := prog_10_method_60_code
def y_M_datagram : MethodName := ⟨R_M, "datagram", "(II)I"⟩
abbrev b_M_packet : ByteArray := prog_10_method_61_code
def y_M_packet : MethodName := ⟨R_M, "packet", "(II)J"⟩
abbrev b_M_lead : ByteArray := prog_10_method_62_code
def y_M_lead : MethodName := ⟨R_M, "lead", "(IIIII)I"⟩
abbrev b_M_cut : ByteArray := prog_10_method_63_code
def y_M_cut : MethodName := ⟨R_M, "cut", "(JJ)I"⟩
abbrev b_M_grow : ByteArray := prog_10_method_64_code
def y_M_grow : MethodName := ⟨R_M, "grow", "(JJI)J"⟩
abbrev b_M_hasBytes : ByteArray := prog_10_method_65_code
def y_M_hasBytes : MethodName := ⟨R_M, "hasBytes", "(I)Z"⟩
abbrev b_M_forgetParameters : ByteArray := prog_10_method_66_code
def y_M_forgetParameters : MethodName := ⟨R_M, "forgetParameters", "()V"⟩
abbrev b_M_suitsId : ByteArray := prog_10_method_67_code
def y_M_suitsId : MethodName := ⟨R_M, "suitsId", "(III)Z"⟩
abbrev b_M_parameterFlaw : ByteArray := prog_10_method_68_code
def y_M_parameterFlaw : MethodName := ⟨R_M, "parameterFlaw", "(ZI)I"⟩
abbrev b_M_parameters : ByteArray := prog_10_method_69_code
def y_M_parameters : MethodName := ⟨R_M, "parameters", "(IZ)I"⟩
abbrev b_M_parameter : ByteArray := prog_10_method_70_code
def y_M_parameter : MethodName := ⟨R_M, "parameter", "(I)J"⟩
abbrev b_D_init : ByteArray := prog_2_method_1_code
def y_D_init : MethodName := ⟨R_D, "<init>", "()V"⟩
abbrev b_D_empty : ByteArray := prog_2_method_2_code
def y_D_empty : MethodName := ⟨R_D, "empty", "()V"⟩
abbrev b_D_append : ByteArray := prog_2_method_3_code
def y_D_append : MethodName := ⟨R_D, "append", "(JI)V"⟩
abbrev b_D_isBelowRanges : ByteArray := prog_2_method_4_code
def y_D_isBelowRanges : MethodName := ⟨R_D, "isBelowRanges", "(J)Z"⟩
abbrev b_D_appendRange : ByteArray := prog_2_method_5_code
def y_D_appendRange : MethodName := ⟨R_D, "appendRange", "(JJ)V"⟩
abbrev b_D_isFrame : ByteArray := prog_2_method_6_code
def y_D_isFrame : MethodName := ⟨R_D, "isFrame", "(I)Z"⟩
abbrev b_D_isHeader : ByteArray := prog_2_method_7_code
def y_D_isHeader : MethodName := ⟨R_D, "isHeader", "(IIIII)Z"⟩
abbrev b_D_writeFrame : ByteArray := prog_2_method_8_code
def y_D_writeFrame : MethodName := ⟨R_D, "writeFrame", "(LWireCodec$Tape;I)V"⟩
abbrev b_D_writeHeader : ByteArray := prog_2_method_9_code
def y_D_writeHeader : MethodName := ⟨R_D, "writeHeader", "(LWireCodec$Tape;IIIII)V"⟩
abbrev b_D_isBit : ByteArray := prog_2_method_10_code
def y_D_isBit : MethodName := ⟨R_D, "isBit", "(J)Z"⟩
abbrev b_D_shapeOf : ByteArray := prog_2_method_11_code
def y_D_shapeOf : MethodName := ⟨R_D, "shapeOf", "(I)I"⟩
abbrev b_D_firstByte : ByteArray := prog_2_method_12_code
def y_D_firstByte : MethodName := ⟨R_D, "firstByte", "(I)I"⟩
abbrev b_D_isAck : ByteArray := prog_2_method_13_code
def y_D_isAck : MethodName := ⟨R_D, "isAck", "()Z"⟩
abbrev b_D_hasCounts : ByteArray := prog_2_method_14_code
def y_D_hasCounts : MethodName := ⟨R_D, "hasCounts", "()Z"⟩
abbrev b_D_hasShape : ByteArray := prog_2_method_15_code
def y_D_hasShape : MethodName := ⟨R_D, "hasShape", "(I)Z"⟩
abbrev b_D_writeShape : ByteArray := prog_2_method_16_code
def y_D_writeShape : MethodName := ⟨R_D, "writeShape", "(LWireCodec$Tape;I)V"⟩
abbrev b_D_writeAck : ByteArray := prog_2_method_17_code
def y_D_writeAck : MethodName := ⟨R_D, "writeAck", "(LWireCodec$Tape;I)V"⟩
abbrev b_F_init : ByteArray := prog_3_method_1_code
def y_F_init : MethodName := ⟨R_F, "<init>", "()V"⟩
abbrev b_F_parse : ByteArray := prog_3_method_2_code
def y_F_parse : MethodName := ⟨R_F, "parse", "(LWireCodec$Reader;I)I"⟩
abbrev b_F_walkRanges : ByteArray := prog_3_method_3_code
def y_F_walkRanges : MethodName := ⟨R_F, "walkRanges", "(LWireCodec$Reader;I)V"⟩
abbrev b_F_forget : ByteArray := prog_3_method_4_code
def y_F_forget : MethodName := ⟨R_F, "forget", "()V"⟩
abbrev b_F_takeShape : ByteArray := prog_3_method_5_code
def y_F_takeShape : MethodName := ⟨R_F, "takeShape", "(LWireCodec$Reader;I)V"⟩
abbrev b_F_takeRest : ByteArray := prog_3_method_6_code
def y_F_takeRest : MethodName := ⟨R_F, "takeRest", "(LWireCodec$Reader;II)V"⟩
abbrev b_F_takeData : ByteArray := prog_3_method_7_code
def y_F_takeData : MethodName := ⟨R_F, "takeData", "(LWireCodec$Reader;J)V"⟩
abbrev b_F_takeStream : ByteArray := prog_3_method_8_code
def y_F_takeStream : MethodName := ⟨R_F, "takeStream", "(LWireCodec$Reader;I)V"⟩
abbrev b_F_takeRangeCount : ByteArray := prog_3_method_9_code
def y_F_takeRangeCount : MethodName := ⟨R_F, "takeRangeCount", "(LWireCodec$Reader;)V"⟩
abbrev b_F_takeCounts : ByteArray := prog_3_method_10_code
def y_F_takeCounts : MethodName := ⟨R_F, "takeCounts", "(LWireCodec$Reader;I)V"⟩
abbrev b_H_init : ByteArray := prog_4_method_1_code
def y_H_init : MethodName := ⟨R_H, "<init>", "()V"⟩
abbrev b_H_parse : ByteArray := prog_4_method_2_code
def y_H_parse : MethodName := ⟨R_H, "parse", "(LWireCodec$Reader;I)I"⟩
abbrev b_H_goesTo : ByteArray := prog_4_method_3_code
def y_H_goesTo : MethodName := ⟨R_H, "goesTo", "(LWireCodec$Tape;II)Z"⟩
abbrev b_H_parseShort : ByteArray := prog_4_method_4_code
def y_H_parseShort : MethodName := ⟨R_H, "parseShort", "(LWireCodec$Reader;II)I"⟩
abbrev b_H_parseLong : ByteArray := prog_4_method_5_code
def y_H_parseLong : MethodName := ⟨R_H, "parseLong", "(LWireCodec$Reader;I)I"⟩
abbrev b_H_sizeOfName : ByteArray := prog_4_method_6_code
def y_H_sizeOfName : MethodName := ⟨R_H, "sizeOfName", "(LWireCodec$Reader;I)I"⟩
abbrev b_H_parseTokenAndLength : ByteArray := prog_4_method_7_code
def y_H_parseTokenAndLength : MethodName := ⟨R_H, "parseTokenAndLength", "(LWireCodec$Reader;)I"⟩
abbrev b_P_init : ByteArray := prog_5_method_1_code
def y_P_init : MethodName := ⟨R_P, "<init>", "()V"⟩
abbrev b_P_forget : ByteArray := prog_5_method_2_code
def y_P_forget : MethodName := ⟨R_P, "forget", "()V"⟩
abbrev b_P_parseNext : ByteArray := prog_5_method_3_code
def y_P_parseNext : MethodName := ⟨R_P, "parseNext", "(LWireCodec$Reader;Z)I"⟩
abbrev b_R_init : ByteArray := prog_6_method_1_code
def y_R_init : MethodName := ⟨R_R, "<init>", "(LWireCodec$Tape;)V"⟩
abbrev b_R_start : ByteArray := prog_6_method_2_code
def y_R_start : MethodName := ⟨R_R, "start", "(II)V"⟩
abbrev b_R_left : ByteArray := prog_6_method_3_code
def y_R_left : MethodName := ⟨R_R, "left", "()I"⟩
abbrev b_R_takeBytes : ByteArray := prog_6_method_4_code
def y_R_takeBytes : MethodName := ⟨R_R, "takeBytes", "(J)I"⟩
abbrev b_R_takeWord : ByteArray := prog_6_method_5_code
def y_R_takeWord : MethodName := ⟨R_R, "takeWord", "(I)J"⟩
abbrev b_R_takeNumber : ByteArray := prog_6_method_6_code
def y_R_takeNumber : MethodName := ⟨R_R, "takeNumber", "()J"⟩
abbrev b_R_numberOfAll : ByteArray := prog_6_method_7_code
def y_R_numberOfAll : MethodName := ⟨R_R, "numberOfAll", "(IJ)J"⟩
abbrev b_R_takeZeros : ByteArray := prog_6_method_8_code
def y_R_takeZeros : MethodName := ⟨R_R, "takeZeros", "()I"⟩
abbrev b_G_init : ByteArray := prog_7_method_1_code
def y_G_init : MethodName := ⟨R_G, "<init>", "()V"⟩
abbrev b_G_restart : ByteArray := prog_7_method_2_code
def y_G_restart : MethodName := ⟨R_G, "restart", "(II)V"⟩
abbrev b_G_fail : ByteArray := prog_7_method_3_code
def y_G_fail : MethodName := ⟨R_G, "fail", "(II)V"⟩
abbrev b_G_keepFrame : ByteArray := prog_7_method_4_code
def y_G_keepFrame : MethodName := ⟨R_G, "keepFrame", "(I)V"⟩
abbrev b_G_keepPacket : ByteArray := prog_7_method_5_code
def y_G_keepPacket : MethodName := ⟨R_G, "keepPacket", "(I)V"⟩
abbrev b_G_placeOf : ByteArray := prog_7_method_6_code
def y_G_placeOf : MethodName := ⟨R_G, "placeOf", "(I)I"⟩
abbrev b_G_keepPlace : ByteArray := prog_7_method_7_code
def y_G_keepPlace : MethodName := ⟨R_G, "keepPlace", "(II)V"⟩
abbrev b_T_init : ByteArray := prog_8_method_1_code
def y_T_init : MethodName := ⟨R_T, "<init>", "()V"⟩
abbrev b_T_byteAt : ByteArray := prog_8_method_2_code
def y_T_byteAt : MethodName := ⟨R_T, "byteAt", "(I)I"⟩
abbrev b_T_numberBytesAt : ByteArray := prog_8_method_3_code
def y_T_numberBytesAt : MethodName := ⟨R_T, "numberBytesAt", "(I)I"⟩
abbrev b_T_numberAt : ByteArray := prog_8_method_4_code
def y_T_numberAt : MethodName := ⟨R_T, "numberAt", "(II)J"⟩
abbrev b_T_wordAt : ByteArray := prog_8_method_5_code
def y_T_wordAt : MethodName := ⟨R_T, "wordAt", "(II)J"⟩
abbrev b_T_startWriting : ByteArray := prog_8_method_6_code
def y_T_startWriting : MethodName := ⟨R_T, "startWriting", "()V"⟩
abbrev b_T_endWriting : ByteArray := prog_8_method_7_code
def y_T_endWriting : MethodName := ⟨R_T, "endWriting", "()Z"⟩
abbrev b_T_writeByte : ByteArray := prog_8_method_8_code
def y_T_writeByte : MethodName := ⟨R_T, "writeByte", "(I)V"⟩
abbrev b_T_writeWord : ByteArray := prog_8_method_9_code
def y_T_writeWord : MethodName := ⟨R_T, "writeWord", "(JI)V"⟩
abbrev b_T_writeNumber : ByteArray := prog_8_method_10_code
def y_T_writeNumber : MethodName := ⟨R_T, "writeNumber", "(JI)V"⟩
abbrev b_T_writeBytes : ByteArray := prog_8_method_11_code
def y_T_writeBytes : MethodName := ⟨R_T, "writeBytes", "([BII)V"⟩
abbrev b_L_feed : ByteArray := method_3_code
def y_L_feed : MethodName := ⟨R_L, "feed", "(LWireCodec;JI[J)I"⟩
abbrev b_L_number : ByteArray := method_4_code
def y_L_number : MethodName := ⟨R_L, "number", "(LWireCodec;JI[J)I"⟩
abbrev b_L_at : ByteArray := method_5_code
def y_L_at : MethodName := ⟨R_L, "at", "(LWireCodec;I[J)I"⟩
abbrev b_L_read : ByteArray := method_6_code
def y_L_read : MethodName := ⟨R_L, "read", "(LWireCodec;I[J)I"⟩
abbrev b_L_frames : ByteArray := method_7_code
def y_L_frames : MethodName := ⟨R_L, "frames", "(LWireCodec;II[J)I"⟩
abbrev b_L_frame : ByteArray := method_8_code
def y_L_frame : MethodName := ⟨R_L, "frame", "(LWireCodec;II[J)I"⟩
abbrev b_L_data : ByteArray := method_9_code
def y_L_data : MethodName := ⟨R_L, "data", "(LWireCodec;IIZ[J)I"⟩
abbrev b_L_range : ByteArray := method_10_code
def y_L_range : MethodName := ⟨R_L, "range", "(LWireCodec;IIZ[J)I"⟩
abbrev b_L_set : ByteArray := method_11_code
def y_L_set : MethodName := ⟨R_L, "set", "(LWireCodec;IJ)I"⟩
abbrev b_L_add : ByteArray := method_12_code
def y_L_add : MethodName := ⟨R_L, "add", "(LWireCodec;JI[J)I"⟩
abbrev b_L_span : ByteArray := method_13_code
def y_L_span : MethodName := ⟨R_L, "span", "(LWireCodec;JJ)I"⟩
abbrev b_L_put : ByteArray := method_14_code
def y_L_put : MethodName := ⟨R_L, "put", "(LWireCodec;I[J)I"⟩
abbrev b_L_head : ByteArray := method_15_code
def y_L_head : MethodName := ⟨R_L, "head", "(LWireCodec;II[J)I"⟩
abbrev b_L_datagram : ByteArray := method_16_code
def y_L_datagram : MethodName := ⟨R_L, "datagram", "(LWireCodec;II[J)I"⟩
abbrev b_L_packet : ByteArray := method_17_code
def y_L_packet : MethodName := ⟨R_L, "packet", "(LWireCodec;II[J)I"⟩
abbrev b_L_lead : ByteArray := method_18_code
def y_L_lead : MethodName := ⟨R_L, "lead", "(LWireCodec;IIIII[J)I"⟩
abbrev b_L_cut : ByteArray := method_19_code
def y_L_cut : MethodName := ⟨R_L, "cut", "(LWireCodec;JJ[J)I"⟩
abbrev b_L_grow : ByteArray := method_20_code
def y_L_grow : MethodName := ⟨R_L, "grow", "(LWireCodec;JJI[J)I"⟩
abbrev b_L_parameters : ByteArray := method_21_code
def y_L_parameters : MethodName := ⟨R_L, "parameters", "(LWireCodec;IZ[J)I"⟩
abbrev b_L_parameter : ByteArray := method_22_code
def y_L_parameter : MethodName := ⟨R_L, "parameter", "(LWireCodec;I[J)I"⟩
abbrev b_In_bitCount : ByteArray := prog_15_method_49_code
def y_In_bitCount : MethodName := ⟨R_In, "bitCount", "(I)I"⟩
abbrev b_Ma_abs : ByteArray := prog_16_method_61_code
def y_Ma_abs : MethodName := ⟨R_Ma, "abs", "(J)J"⟩
abbrev b_Ma_min : ByteArray := prog_16_method_69_code
def y_Ma_min : MethodName := ⟨R_Ma, "min", "(II)I"⟩
abbrev b_Ar_copyOf_aBI : ByteArray := prog_21_method_121_code
def y_Ar_copyOf_aBI : MethodName := ⟨R_Ar, "copyOf", "([BI)[B"⟩
abbrev b_Ar_copyOf_aII : ByteArray := prog_21_method_123_code
def y_Ar_copyOf_aII : MethodName := ⟨R_Ar, "copyOf", "([II)[I"⟩
abbrev b_Ar_copyOf_aJI : ByteArray := prog_21_method_124_code
def y_Ar_copyOf_aJI : MethodName := ⟨R_Ar, "copyOf", "([JI)[J"⟩
abbrev b_Ar_fill_aII : ByteArray := prog_21_method_103_code
def y_Ar_fill_aII : MethodName := ⟨R_Ar, "fill", "([II)V"⟩
abbrev b_Ar_fill_aJJ : ByteArray := prog_21_method_101_code
def y_Ar_fill_aJJ : MethodName := ⟨R_Ar, "fill", "([JJ)V"⟩
abbrev zcl : List vw_C := [(R_W, F_W, 7), (R_T, F_T, 3), (R_R, F_R, 4), (R_G, F_G, 7), (R_F, F_F, 7), (R_H, F_H, 1), (R_D, F_D, 6), (R_P, F_P, 2), (R_M, F_M, 26)]
def ztb : List Cond := lw_tbl.filter goodWord
theorem zmem {w : Cond} (i : Nat) (h : lw_tbl[i]? = some w) (hg : goodWord w = true) : w ∈ ztb := List.mem_filter.mpr ⟨List.mem_of_getElem? h, hg⟩
theorem ztbl_ok (w : Cond) (h : w ∈ ztb) : (w.onTables && w.keeps) = true ∨ ∃ ty, w = .arrayClass ty := good_of_word (List.mem_filter.mp h).2
theorem zi_W : ∀ w ∈ u_ws R_W F_W 7, w ∈ ztb := by
  intro w hw
  obtain ⟨k, hk, rfl⟩ := List.mem_map.mp hw
  have hk := List.mem_range.mp hk
  rcases (show k = 0 ∨ k = 1 ∨ k = 2 ∨ k = 3 ∨ k = 4 ∨ k = 5 ∨ k = 6 by omega) with rfl | rfl | rfl | rfl | rfl | rfl | rfl
  · exact zmem 284 (by decide +kernel) (by decide +kernel)
  · exact zmem 286 (by decide +kernel) (by decide +kernel)
  · exact zmem 288 (by decide +kernel) (by decide +kernel)
  · exact zmem 290 (by decide +kernel) (by decide +kernel)
  · exact zmem 292 (by decide +kernel) (by decide +kernel)
  · exact zmem 294 (by decide +kernel) (by decide +kernel)
  · exact zmem 296 (by decide +kernel) (by decide +kernel)
theorem zi_T : ∀ w ∈ u_ws R_T F_T 3, w ∈ ztb := by
  intro w hw
  obtain ⟨k, hk, rfl⟩ := List.mem_map.mp hw
  have hk := List.mem_range.mp hk
  rcases (show k = 0 ∨ k = 1 ∨ k = 2 by omega) with rfl | rfl | rfl
  · exact zmem 99 (by decide +kernel) (by decide +kernel)
  · exact zmem 101 (by decide +kernel) (by decide +kernel)
  · exact zmem 103 (by decide +kernel) (by decide +kernel)
theorem zi_R : ∀ w ∈ u_ws R_R F_R 4, w ∈ ztb := by
  intro w hw
  obtain ⟨k, hk, rfl⟩ := List.mem_map.mp hw
  have hk := List.mem_range.mp hk
  rcases (show k = 0 ∨ k = 1 ∨ k = 2 ∨ k = 3 by omega) with rfl | rfl | rfl | rfl
  · exact zmem 125 (by decide +kernel) (by decide +kernel)
  · exact zmem 127 (by decide +kernel) (by decide +kernel)
  · exact zmem 129 (by decide +kernel) (by decide +kernel)
  · exact zmem 131 (by decide +kernel) (by decide +kernel)
theorem zi_G : ∀ w ∈ u_ws R_G F_G 7, w ∈ ztb := by
  intro w hw
  obtain ⟨k, hk, rfl⟩ := List.mem_map.mp hw
  have hk := List.mem_range.mp hk
  rcases (show k = 0 ∨ k = 1 ∨ k = 2 ∨ k = 3 ∨ k = 4 ∨ k = 5 ∨ k = 6 by omega) with rfl | rfl | rfl | rfl | rfl | rfl | rfl
  · exact zmem 153 (by decide +kernel) (by decide +kernel)
  · exact zmem 155 (by decide +kernel) (by decide +kernel)
  · exact zmem 157 (by decide +kernel) (by decide +kernel)
  · exact zmem 159 (by decide +kernel) (by decide +kernel)
  · exact zmem 161 (by decide +kernel) (by decide +kernel)
  · exact zmem 163 (by decide +kernel) (by decide +kernel)
  · exact zmem 165 (by decide +kernel) (by decide +kernel)
theorem zi_F : ∀ w ∈ u_ws R_F F_F 7, w ∈ ztb := by
  intro w hw
  obtain ⟨k, hk, rfl⟩ := List.mem_map.mp hw
  have hk := List.mem_range.mp hk
  rcases (show k = 0 ∨ k = 1 ∨ k = 2 ∨ k = 3 ∨ k = 4 ∨ k = 5 ∨ k = 6 by omega) with rfl | rfl | rfl | rfl | rfl | rfl | rfl
  · exact zmem 189 (by decide +kernel) (by decide +kernel)
  · exact zmem 191 (by decide +kernel) (by decide +kernel)
  · exact zmem 193 (by decide +kernel) (by decide +kernel)
  · exact zmem 195 (by decide +kernel) (by decide +kernel)
  · exact zmem 197 (by decide +kernel) (by decide +kernel)
  · exact zmem 199 (by decide +kernel) (by decide +kernel)
  · exact zmem 201 (by decide +kernel) (by decide +kernel)
theorem zi_H : ∀ w ∈ u_ws R_H F_H 1, w ∈ ztb := by
  intro w hw
  obtain ⟨k, hk, rfl⟩ := List.mem_map.mp hw
  have hk := List.mem_range.mp hk
  rcases (show k = 0 by omega) with rfl
  · exact zmem 213 (by decide +kernel) (by decide +kernel)
theorem zi_D : ∀ w ∈ u_ws R_D F_D 6, w ∈ ztb := by
  intro w hw
  obtain ⟨k, hk, rfl⟩ := List.mem_map.mp hw
  have hk := List.mem_range.mp hk
  rcases (show k = 0 ∨ k = 1 ∨ k = 2 ∨ k = 3 ∨ k = 4 ∨ k = 5 by omega) with rfl | rfl | rfl | rfl | rfl | rfl
  · exact zmem 231 (by decide +kernel) (by decide +kernel)
  · exact zmem 233 (by decide +kernel) (by decide +kernel)
  · exact zmem 235 (by decide +kernel) (by decide +kernel)
  · exact zmem 237 (by decide +kernel) (by decide +kernel)
  · exact zmem 239 (by decide +kernel) (by decide +kernel)
  · exact zmem 241 (by decide +kernel) (by decide +kernel)
theorem zi_P : ∀ w ∈ u_ws R_P F_P 2, w ∈ ztb := by
  intro w hw
  obtain ⟨k, hk, rfl⟩ := List.mem_map.mp hw
  have hk := List.mem_range.mp hk
  rcases (show k = 0 ∨ k = 1 by omega) with rfl | rfl
  · exact zmem 272 (by decide +kernel) (by decide +kernel)
  · exact zmem 274 (by decide +kernel) (by decide +kernel)
theorem zi_M : ∀ w ∈ u_ws R_M F_M 26, w ∈ ztb := by
  intro w hw
  obtain ⟨k, hk, rfl⟩ := List.mem_map.mp hw
  have hk := List.mem_range.mp hk
  rcases (show k = 0 ∨ k = 1 ∨ k = 2 ∨ k = 3 ∨ k = 4 ∨ k = 5 ∨ k = 6 ∨ k = 7 ∨ k = 8 ∨ k = 9 ∨ k = 10 ∨ k = 11 ∨ k = 12 ∨ k = 13 ∨ k = 14 ∨ k = 15 ∨ k = 16 ∨ k = 17 ∨ k = 18 ∨ k = 19 ∨ k = 20 ∨ k = 21 ∨ k = 22 ∨ k = 23 ∨ k = 24 ∨ k = 25 by omega) with rfl | rfl | rfl | rfl | rfl | rfl | rfl | rfl | rfl | rfl | rfl | rfl | rfl | rfl | rfl | rfl | rfl | rfl | rfl | rfl | rfl | rfl | rfl | rfl | rfl | rfl
  · exact zmem 968 (by decide +kernel) (by decide +kernel)
  · exact zmem 970 (by decide +kernel) (by decide +kernel)
  · exact zmem 972 (by decide +kernel) (by decide +kernel)
  · exact zmem 974 (by decide +kernel) (by decide +kernel)
  · exact zmem 976 (by decide +kernel) (by decide +kernel)
  · exact zmem 978 (by decide +kernel) (by decide +kernel)
  · exact zmem 980 (by decide +kernel) (by decide +kernel)
  · exact zmem 982 (by decide +kernel) (by decide +kernel)
  · exact zmem 984 (by decide +kernel) (by decide +kernel)
  · exact zmem 986 (by decide +kernel) (by decide +kernel)
  · exact zmem 988 (by decide +kernel) (by decide +kernel)
  · exact zmem 990 (by decide +kernel) (by decide +kernel)
  · exact zmem 992 (by decide +kernel) (by decide +kernel)
  · exact zmem 994 (by decide +kernel) (by decide +kernel)
  · exact zmem 996 (by decide +kernel) (by decide +kernel)
  · exact zmem 998 (by decide +kernel) (by decide +kernel)
  · exact zmem 1000 (by decide +kernel) (by decide +kernel)
  · exact zmem 1002 (by decide +kernel) (by decide +kernel)
  · exact zmem 1004 (by decide +kernel) (by decide +kernel)
  · exact zmem 1006 (by decide +kernel) (by decide +kernel)
  · exact zmem 1008 (by decide +kernel) (by decide +kernel)
  · exact zmem 1010 (by decide +kernel) (by decide +kernel)
  · exact zmem 1012 (by decide +kernel) (by decide +kernel)
  · exact zmem 1014 (by decide +kernel) (by decide +kernel)
  · exact zmem 1016 (by decide +kernel) (by decide +kernel)
  · exact zmem 1018 (by decide +kernel) (by decide +kernel)
abbrev zT : Type := (Nat → Int32) × Nat × Int32 × Int32
abbrev zR : Type := Int32 × Int32 × Int32
abbrev zG : Type := (Nat → Int32) × Nat × Int32 × Int32 × Int32 × Int32 × Int32 × Int32
abbrev zF : Type := (Nat → Int64) × Int32 × Int32 × Int32 × Int32 × Int64 × Int64
abbrev zH : Type := (Nat → Int32)
abbrev zD : Type := (Nat → Int64) × (Nat → Int32) × (Nat → Int64) × (Nat → Int64) × Int32 × Int32
abbrev zP : Type := (Nat → Int64) × Int32
abbrev zM : Type := Int32 × (Nat → Int32) × Int32 × Int32 × Int32 × Int32 × (Nat → Int32) × Int32 × (Nat → Int64) × Int32 × Int32 × Int32 × Int32 × Int32 × Int32 × Int32 × Int32 × (Nat → Int64) × (Nat → Int32) × Int32 × (Nat → Int64) × (Nat → Int64) × Int32 × Int32 × (Nat → Int32) × (Nat → Int64)
end
section
-- own rows: guards, branches, binds of the printed functions
noncomputable def zg {α : Type} (c : Prop) (x : Option α) : Option α := @ite _ c (Classical.propDecidable c) x none
theorem zgd {α : Type} {c : Prop} {x : Option α} {b : α} (h : zg c x = some b) : c ∧ x = some b := by
  unfold zg at h
  by_cases hc : c
  · rw [if_pos hc] at h; exact ⟨hc, h⟩
  · rw [if_neg hc] at h; cases h
theorem zg_t {α : Type} {c : Prop} {x : Option α} (h : c) : zg c x = x := by unfold zg; rw [if_pos h]
theorem zt {α : Type} {c : Prop} [Decidable c] {x y : Option α} {b : α} (h : (if c then x else y) = some b) (hc : c) : x = some b := by rw [if_pos hc] at h; exact h
theorem zf {α : Type} {c : Prop} [Decidable c] {x y : Option α} {b : α} (h : (if c then x else y) = some b) (hc : ¬ c) : y = some b := by rw [if_neg hc] at h; exact h
theorem zb {α β : Type} {x : Option α} {f : α → Option β} {b : β} (h : x.bind f = some b) : ∃ a, x = some a ∧ f a = some b := by
  cases x with
  | none => cases h
  | some a => exact ⟨a, rfl, h⟩
theorem zlook {ps : List (Int × Int)} {d k : Int} (h : ∀ q ∈ ps, q.1 ≠ k) : Op.lookupswitch.offset ps d k = d := by
  induction ps with
  | nil => rfl
  | cons q r ih =>
    obtain ⟨a, o⟩ := q
    rw [Op.lookupswitch.offset_cons, if_neg (h (a, o) List.mem_cons_self)]
    exact ih fun q hq => h q (List.mem_cons_of_mem _ hq)
theorem zne {x k : Int32} (h : ¬ x = k) : k.toInt ≠ x.toInt := fun e => h (Int32.toInt_inj.mp e.symm)
theorem zlohi {a b c d : Int} (h : ¬ (a < b ∨ c < d)) : ¬ a < b ∧ ¬ c < d := ⟨fun q => h (Or.inl q), fun q => h (Or.inr q)⟩
theorem zrng {x : Int32} {lo hi : Int} (h1 : ¬ x.toInt < lo) (h2 : ¬ hi < x.toInt) : ∃ j : Nat, j < (hi - lo).toNat + 1 ∧ x = Int32.ofInt (lo + j) := by
  refine ⟨(x.toInt - lo).toNat, by omega, ?_⟩
  have e : lo + ((x.toInt - lo).toNat : Int) = x.toInt := by omega
  rw [e, Int32.ofInt_toInt]
-- what holds of the method that is walked
def zx (p : Program) (s : State) (m : MethodId) (args : Array Value) (meth : Method) (c : Code) (R : Room) (own : String) (cc : ByteArray) (ret : Option FieldType) (nL F L : Nat) : Prop :=
  p.tables.exec = Jvm.exec ∧ c.code = cc ∧ meth.sig.returnType = ret ∧ c.maxLocals = nL ∧ s.vm.findClass own = some m.cls ∧ (∀ w ∈ ztb, w.before args s = true) ∧ meth.locks = false ∧ F ≤ R.frames ∧ L ≤ R.locals
def zw (y : MethodName) (bytes : ByteArray) (maxL : Nat) (ret : Option FieldType) : List Cond := Cond.code y bytes maxL ret :: ztb
theorem zx_of {p : Program} {l : Launch} {y : MethodName} {rm : Room} {cc : ByteArray} {maxL : Nat} {ret : Option FieldType} {e : Env} {s : State} {m : MethodId} {args : Array Value} {below : List Frame} {meth : Method} {c : Code} {s₁ : State} {F L : Nat}
    (B : BodyLoose p l y (headSpec (zw y cc maxL ret) rm) cc maxL ret e s m args below meth c s₁) (hml : c.maxLocals = maxL) (h1 : F ≤ rm.frames) (h2 : L ≤ rm.locals) : zx p s m args meth c rm y.cls cc ret maxL F L :=
  ⟨B.exec, B.bytes, B.returns, hml, findClass_of_methodNamed B.named, fun w h => atoms_spec (ws := zw y cc maxL ret) B.pre w (List.mem_cons_of_mem _ h), B.notSynchronized, h1, h2⟩
-- words on private members of a nest mate, and static arrays
def zisn : Cond → Bool
  | .fieldLinkNest .. => true
  | .methodLinkNest .. => true
  | _ => false
def zN : List Cond := lw_tbl.filter zisn
theorem zN_tab (w : Cond) (h : w ∈ zN) : w.onTables = true := by
  have h1 := (List.mem_filter.mp h).2
  cases w <;> first | rfl | (simp [zisn] at h1; done)
theorem zN_warm (w : Cond) (h : w ∈ zN) {s U : State} (hW : s.WarmedH U.vm) (hZ : va_Nw w s) : va_Nw w U := by
  have h1 := (List.mem_filter.mp h).2
  cases w <;> first | exact va_Nw.warmF hW hZ | exact va_Nw.warmM hW hZ | (simp [zisn] at h1; done)
theorem zmemN {w : Cond} (i : Nat) (h : lw_tbl[i]? = some w) (hg : zisn w = true) : w ∈ zN := List.mem_filter.mpr ⟨List.mem_of_getElem? h, hg⟩
def zsS : Nat → Int32 := fun j => ([0, 0, 3, 3, 7, 3, 10, 8, 1, 1, 9, 9, 3, 3, 11, 11, 1, 3, 1, 1, 1, 3, 1, 1, 3, 1, 0, 0, 11, 9, 0] : List Int32).getD j 0
def zsA : Nat → Int64 := fun j => ([-1, 0, -1, 65527, 0, 0, 0, 0, 0, 0, 3, 25, 0, -1, 2, -1, -1] : List Int64).getD j 0
def zsL : Nat → Int64 := fun j => ([0, 0, 16, 1200, 0, 0, 0, 0, 0, 0, 0, 0, 0, 41, 2, 0, 0] : List Int64).getD j 0
def zsM : Nat → Int64 := fun j => ([20, 4611686018427387903, 16, 4611686018427387903, 4611686018427387903, 4611686018427387903, 4611686018427387903, 4611686018427387903, 1152921504606846976, 1152921504606846976, 20, 16383, 0, 61, 4611686018427387903, 20, 20] : List Int64).getD j 0
def zst (C n d : String) (ty : FieldType) (N : Nat) (f : Nat → Value) (A : Nat → Prop) (U : State) : Prop := ∃ t : Nat, va_Z C n d (.ref t) A U U.heap ∧ va_T ty t N f A U U.heap
theorem zst.moved {C n d : String} {ty : FieldType} {N : Nat} {f : Nat → Value} {A B : Nat → Prop} {s U : State} {H : Heap} {locs : List Loc} (h : zst C n d ty N f A s) (hS : va_S A s.heap H locs) (hB : ∀ q, B q → A q) (hH : U.heap = H) (hvm : s.vm.Alike U.vm) : zst C n d ty N f B U := by
  obtain ⟨t, h1, h2⟩ := h
  exact ⟨t, by rw [hH]; exact (va_Z.moved hvm (h1.kept hS.2.1)).narrow hB, by rw [hH]; exact (va_T.moved hvm (h2.kept hS.2.1)).narrow hB⟩
theorem zst.same {C n d : String} {ty : FieldType} {N : Nat} {f : Nat → Value} {A : Nat → Prop} {s U : State} (h : zst C n d ty N f A s) (hH : U.heap = s.heap) (hvm : s.vm = U.vm) : zst C n d ty N f A U := by
  obtain ⟨t, h1, h2⟩ := h
  have ha : s.vm.Alike U.vm := by rw [hvm]; exact Vm.Alike.refl _
  exact ⟨t, by rw [hH]; exact va_Z.moved ha h1, by rw [hH]; exact va_T.moved ha h2⟩
def zstat (A : Nat → Prop) (U : State) : Prop :=
  zst "WireCodec" "SHAPES" "[I" .int 31 (fun j => .int (zsS j)) A U ∧ zst "WireCodec$Parameters" "ABSENT" "[J" .long 17 (fun j => .long (zsA j)) A U ∧ zst "WireCodec$Parameters" "LEAST" "[J" .long 17 (fun j => .long (zsL j)) A U ∧ zst "WireCodec$Parameters" "MOST" "[J" .long 17 (fun j => .long (zsM j)) A U
theorem zstat_moved {A B : Nat → Prop} {s U : State} {H : Heap} {locs : List Loc} (h : zstat A s) (hS : va_S A s.heap H locs) (hB : ∀ q, B q → A q) (hH : U.heap = H) (hW : s.WarmedH U.vm) : zstat B U :=
  ⟨h.1.moved hS hB hH hW.alike, h.2.1.moved hS hB hH hW.alike, h.2.2.1.moved hS hB hH hW.alike, h.2.2.2.moved hS hB hH hW.alike⟩
theorem zstat_same {A : Nat → Prop} {s U : State} (h : zstat A s) (hH : U.heap = s.heap) (hvm : s.vm = U.vm) : zstat A U :=
  ⟨h.1.same hH hvm, h.2.1.same hH hvm, h.2.2.1.same hH hvm, h.2.2.2.same hH hvm⟩
-- what holds of the tables and of what was there at the start
def zk (dC : Nat → ClassId) (dI : Nat → Nat → Nat) (cB cI cL : ClassId) (A : Nat → Prop) (U : State) : Prop :=
  va_K (dC, dI) zcl [(cB, .byte), (cI, .int), (cL, .long)] U ∧ (∀ w ∈ zN, va_Nw w U) ∧ zstat A U
theorem zk.moved {dC : Nat → ClassId} {dI : Nat → Nat → Nat} {cB cI cL : ClassId} {A B : Nat → Prop} {s U : State} {H : Heap} {locs : List Loc} (h : zk dC dI cB cI cL A s) (hS : va_S A s.heap H locs) (hB : ∀ q, B q → A q) (hH : U.heap = H) (hW : s.WarmedH U.vm) : zk dC dI cB cI cL B U :=
  ⟨va_K.moved hW.alike h.1, fun w hw => zN_warm w hw hW (h.2.1 w hw), zstat_moved h.2.2 hS hB hH hW⟩
def zpre (dC : Nat → ClassId) (dI : Nat → Nat → Nat) (cB cI cL : ClassId) (sz : Nat) (w : va_W) : State → Prop := fun U =>
  U.heap.size = sz ∧ va_P (dC, dI) zcl w U.heap ∧ zk dC dI cB cI cL (va_A w sz) U ∧ va_D (fun _ => True) w
theorem zpre_blind {dC : Nat → ClassId} {dI : Nat → Nat → Nat} {cB cI cL : ClassId} {sz : Nat} {w : va_W} {av : List Value} : FrameBlind (va_Pc av (zpre dC dI cB cI cL sz w)) := fun a U g mk h =>
  ⟨h.1, h.2.1, h.2.2.1, ⟨va_K.moved (u := U) (U := U.calling g mk a) (Vm.Alike.refl U.vm) h.2.2.2.1.1, fun v hv => va_Nw.same (zN_tab v hv) (u := U) (U := U.calling g mk a) rfl (h.2.2.2.1.2.1 v hv), zstat_same h.2.2.2.1.2.2 rfl rfl⟩, h.2.2.2.2⟩
def zy (y : MethodName) (bytes : ByteArray) (maxL : Nat) (ret : Option FieldType) (n : Nat) : Prop :=
  Cond.code y bytes maxL ret ∈ ztb ∧ Cond.initialized y.cls ∈ ztb ∧ (y.cls ≠ "java/lang/invoke/MethodHandle" ∧ y.cls ≠ "java/lang/invoke/VarHandle" ∧ (parseMethodDescriptor y.desc).map (fun d => d.parameters.length) = some n)
theorem zgood {y : MethodName} {bytes : ByteArray} {maxL : Nat} {ret : Option FieldType} {n : Nat} (h : zy y bytes maxL ret n) : GoodIn ztb (zw y bytes maxL ret) := by
  intro w hw
  rcases List.mem_cons.mp hw with rfl | hw
  · exact ⟨h.1, Or.inl rfl⟩
  · exact ⟨hw, ztbl_ok w hw⟩
section ZR
variable {p : Program} {l : Launch} {e : Env} {R : Room} {s : State} {m : MethodId} {args : Array Value} {below : List Frame} {meth : Method} {c : Code} {H : Heap} {locs : List Loc} {cells slots : Nat} {Q : State → Prop}
variable {dC : Nat → ClassId} {dI : Nat → Nat → Nat} {cB cI cL : ClassId} {A : Nat → Prop} {own : String} {cc : ByteArray} {ret0 : Option FieldType} {nL F L : Nat} {y : MethodName} {bytes : ByteArray} {maxL : Nat} {ret : Option FieldType} {rm : Room} {Qc : Array Value → State → Outcome → State → Prop} {mc ms n idx : Nat} {b : Addr} {As rest : List Value} {wc wr ws : va_W} {pc : Nat} {ls : Array Slot} {lv : List (Nat × Value)} {st0 : List Value}
theorem zpreS {av : List Value} (zz : zk dC dI cB cI cL A s) (hP : va_P (dC, dI) zcl ws H) (hD : va_D A ws) (hS : va_S A s.heap H locs) (hA : ∀ q, s.heap.size ≤ q → A q) (isC : List Nat) (hn : va_nd isC = true) (hC : isC.map (fun i => ws[i]?) = wc.map some) :
    PreS s H (va_Pc av (zpre dC dI cB cI cL H.size wc)) av := by
  have hF : ∀ q, va_A wc H.size q → A q := va_free hD hS hA isC hC
  have hPc : va_P (dC, dI) zcl wc H := hP.sub isC (by
    have h1 : isC.filterMap (fun i => ws[i]?) = (isC.map (fun i => ws[i]?)).filterMap id := by simp
    rw [h1, hC]; simp)
  have hDc : va_D A wc := hD.sub isC hn hC
  exact ⟨zpre_blind, fun U hU hW => ⟨rfl, by rw [hU], by rw [hU]; exact hPc, zz.moved hS hF hU hW, hDc.weaken (fun _ _ _ _ => trivial)⟩⟩
theorem zcb (X : zx p s m args meth c R own cc ret0 nL F L) (hy : zy y bytes maxL ret n) (hl : (Cond.methodLink own idx y).before args s = true) (hrc : rm.cells = mc) (hrs : rm.slots = ms) (hR : rm.frames + 1 ≤ R.frames ∧ 8 + (maxL + 11) + rm.locals ≤ R.locals) :
    CallB R s args own idx y bytes maxL ret (zw y bytes maxL ret) rm mc ms n :=
  callB_of n X.2.2.2.2.2.1 (zgood hy) rfl hrc hrs (X.2.2.2.2.2.1 _ hy.2.1) hl hy.2.2 hR
theorem zfix (X : zx p s m args meth c R own cc ret0 nL F L) : CallFix p m c cc nL s args ztb own := ⟨X.1, X.2.1, X.2.2.2.1, X.2.2.2.2.1, X.2.2.2.2.2.1⟩
theorem zrunV (X : zx p s m args meth c R own cc ret0 nL F L) (zz : zk dC dI cB cI cL A s) (hP : va_P (dC, dI) zcl ws H) (hD : va_D A ws) (hS : va_S A s.heap H locs) (hA : ∀ q, s.heap.size ≤ q → A q) (isC : List Nat) (hnd : va_nd isC = true) (hC : isC.map (fun i => ws[i]?) = wc.map some)
    (hM : Met l y (zw y bytes maxL ret) rm (va_Pc (.ref b :: As) (zpre dC dI cB cI cL H.size wc)) Qc mc ms (va_A wc H.size)) (hy : zy y bytes maxL ret n) (hv : Cond.instanceMethod y ∈ ztb ∧ Cond.selects y.cls y y ∈ ztb) (hl : (Cond.methodLink own idx y).before args s = true) (hls : lv_has ls nL lv)
    (hst : st0 = As.reverse ++ .ref b :: rest) (hn : As.length = n) (hdg : decode cc pc = .ok (.invokevirtual idx, 3)) (hW : 2 * (F0 m pc ls st0).monitorRoom + (rest.map fun v => v.category).sum ≤ 8) (hrc : rm.cells = mc) (hrs : rm.slots = ms) (hR : rm.frames + 1 ≤ R.frames ∧ 8 + (maxL + 11) + rm.locals ≤ R.locals) (hf : cells + mc ≤ R.cells ∧ slots + ms ≤ R.slots)
    (q0 ci : Nat) {fs : List Value} {T : u_T} {k : Nat} (he : wc[q0]? = some (b, .inr (ci, fs))) (hc : zcl[ci]? = some (y.cls, T, k)) :
    va_Run p l e R s m args below meth c H locs cells slots mc ms (F0 m pc ls st0) rest (Qc (Value.ref b :: As).toArray) (va_A wc H.size) := by
  have hp := zpreS (av := .ref b :: As) zz hP hD hS hA isC hnd hC
  have hPc : va_P (dC, dI) zcl wc H := hP.sub isC (by
    have h1 : isC.filterMap (fun i => ws[i]?) = (isC.map (fun i => ws[i]?)).filterMap id := by simp
    rw [h1, hC]; simp)
  exact va_runV (C := y.cls) (zfix X) hM ⟨zcb X hy hl hrc hrs hR, X.2.2.2.2.2.1 _ hv.1, X.2.2.2.2.2.1 _ hv.2⟩ ⟨hp.1, va_recv zz.1 hPc (ci := ci) (q0 := q0) hc he, hp.2⟩ rfl hn hls.1 hst hW hdg hf
theorem zrunS (X : zx p s m args meth c R own cc ret0 nL F L) (zz : zk dC dI cB cI cL A s) (hP : va_P (dC, dI) zcl ws H) (hD : va_D A ws) (hS : va_S A s.heap H locs) (hA : ∀ q, s.heap.size ≤ q → A q) (isC : List Nat) (hnd : va_nd isC = true) (hC : isC.map (fun i => ws[i]?) = wc.map some)
    (hM : Met l y (zw y bytes maxL ret) rm (va_Pc As (zpre dC dI cB cI cL H.size wc)) Qc mc ms (va_A wc H.size)) (hy : zy y bytes maxL ret n) (hv : Cond.static y ∈ ztb) (hl : (Cond.methodLink own idx y).before args s = true) (hls : lv_has ls nL lv)
    (hst : st0 = As.reverse ++ rest) (hn : As.length = n) (hdg : decode cc pc = .ok (.invokestatic idx, 3)) (hW : 2 * (F0 m pc ls st0).monitorRoom + (rest.map fun v => v.category).sum ≤ 8) (hrc : rm.cells = mc) (hrs : rm.slots = ms) (hR : rm.frames + 1 ≤ R.frames ∧ 8 + (maxL + 11) + rm.locals ≤ R.locals) (hf : cells + mc ≤ R.cells ∧ slots + ms ≤ R.slots) :
    va_Run p l e R s m args below meth c H locs cells slots mc ms (F0 m pc ls st0) rest (Qc As.toArray) (va_A wc H.size) := by
  have hp := zpreS (av := As) zz hP hD hS hA isC hnd hC
  exact va_runS (zfix X) hM ⟨zcb X hy hl hrc hrs hR, X.2.2.2.2.2.1 _ hv⟩ hp rfl hn hls.1 hst hW hdg hf
theorem zcn {host : String} (X : zx p s m args meth c R own cc ret0 nL F L) (hy : zy y bytes maxL ret n) (hl : va_Nw (.methodLinkNest own idx y host) s) (hrc : rm.cells = mc) (hrs : rm.slots = ms) (hR : rm.frames + 1 ≤ R.frames ∧ 8 + (maxL + 11) + rm.locals ≤ R.locals) :
    va_CN R s args own idx y host bytes maxL ret (zw y bytes maxL ret) rm mc ms n :=
  va_cnB n X.2.2.2.2.2.1 (zgood hy) rfl hrc hrs hl (X.2.2.2.2.2.1 _ hy.2.1) hy.2.2 hR
theorem zrunSN {host : String} (X : zx p s m args meth c R own cc ret0 nL F L) (zz : zk dC dI cB cI cL A s) (hP : va_P (dC, dI) zcl ws H) (hD : va_D A ws) (hS : va_S A s.heap H locs) (hA : ∀ q, s.heap.size ≤ q → A q) (isC : List Nat) (hnd : va_nd isC = true) (hC : isC.map (fun i => ws[i]?) = wc.map some)
    (hM : Met l y (zw y bytes maxL ret) rm (va_Pc As (zpre dC dI cB cI cL H.size wc)) Qc mc ms (va_A wc H.size)) (hy : zy y bytes maxL ret n) (hv : Cond.static y ∈ ztb) (hl : va_Nw (.methodLinkNest own idx y host) s) (hls : lv_has ls nL lv)
    (hst : st0 = As.reverse ++ rest) (hn : As.length = n) (hdg : decode cc pc = .ok (.invokestatic idx, 3)) (hW : 2 * (F0 m pc ls st0).monitorRoom + (rest.map fun v => v.category).sum ≤ 8) (hrc : rm.cells = mc) (hrs : rm.slots = ms) (hR : rm.frames + 1 ≤ R.frames ∧ 8 + (maxL + 11) + rm.locals ≤ R.locals) (hf : cells + mc ≤ R.cells ∧ slots + ms ≤ R.slots) :
    va_Run p l e R s m args below meth c H locs cells slots mc ms (F0 m pc ls st0) rest (Qc As.toArray) (va_A wc H.size) := by
  have hp := zpreS (av := As) zz hP hD hS hA isC hnd hC
  exact va_runSN (zfix X) hM ⟨zcn X hy hl hrc hrs hR, X.2.2.2.2.2.1 _ hv, trivial⟩ hp rfl hn hls.1 hst hW hdg hf
theorem zrunI (X : zx p s m args meth c R own cc ret0 nL F L) (zz : zk dC dI cB cI cL A s) (hP : va_P (dC, dI) zcl ws H) (hD : va_D A ws) (hS : va_S A s.heap H locs) (hA : ∀ q, s.heap.size ≤ q → A q) (isC : List Nat) (hnd : va_nd isC = true) (hC : isC.map (fun i => ws[i]?) = wc.map some)
    (hM : Met l y (zw y bytes maxL none) rm (va_Pc (.ref b :: As) (zpre dC dI cB cI cL H.size wc)) Qc mc ms (va_A wc H.size)) (hy : zy y bytes maxL none n) (hv : Cond.instanceMethod y ∈ ztb) (hnm : y.name = "<init>") (hl : (Cond.methodLink own idx y).before args s = true) (hls : lv_has ls nL lv)
    (hst : st0 = As.reverse ++ .ref b :: rest) (hn : As.length = n) (hdg : decode cc pc = .ok (.invokespecial idx, 3)) (hW : 2 * (F0 m pc ls st0).monitorRoom + (rest.map fun v => v.category).sum ≤ 8) (hrc : rm.cells = mc) (hrs : rm.slots = ms) (hR : rm.frames + 1 ≤ R.frames ∧ 8 + (maxL + 11) + rm.locals ≤ R.locals) (hf : cells + mc ≤ R.cells ∧ slots + ms ≤ R.slots) :
    va_Run p l e R s m args below meth c H locs cells slots mc ms (F0 m pc ls st0) rest (Qc (Value.ref b :: As).toArray) (va_A wc H.size) := by
  have hp := zpreS (av := .ref b :: As) zz hP hD hS hA isC hnd hC
  exact va_runI (zfix X) hM ⟨zcb X hy hl hrc hrs hR, hnm, X.2.2.2.2.2.1 _ hv⟩ hp rfl hn hls.1 hst hW hdg hf
theorem zrunIN {host : String} (X : zx p s m args meth c R own cc ret0 nL F L) (zz : zk dC dI cB cI cL A s) (hP : va_P (dC, dI) zcl ws H) (hD : va_D A ws) (hS : va_S A s.heap H locs) (hA : ∀ q, s.heap.size ≤ q → A q) (isC : List Nat) (hnd : va_nd isC = true) (hC : isC.map (fun i => ws[i]?) = wc.map some)
    (hM : Met l y (zw y bytes maxL none) rm (va_Pc (.ref b :: As) (zpre dC dI cB cI cL H.size wc)) Qc mc ms (va_A wc H.size)) (hy : zy y bytes maxL none n) (hv : Cond.instanceMethod y ∈ ztb) (hnm : y.name = "<init>") (hl : va_Nw (.methodLinkNest own idx y host) s) (hls : lv_has ls nL lv)
    (hst : st0 = As.reverse ++ .ref b :: rest) (hn : As.length = n) (hdg : decode cc pc = .ok (.invokespecial idx, 3)) (hW : 2 * (F0 m pc ls st0).monitorRoom + (rest.map fun v => v.category).sum ≤ 8) (hrc : rm.cells = mc) (hrs : rm.slots = ms) (hR : rm.frames + 1 ≤ R.frames ∧ 8 + (maxL + 11) + rm.locals ≤ R.locals) (hf : cells + mc ≤ R.cells ∧ slots + ms ≤ R.slots) :
    va_Run p l e R s m args below meth c H locs cells slots mc ms (F0 m pc ls st0) rest (Qc (Value.ref b :: As).toArray) (va_A wc H.size) := by
  have hp := zpreS (av := .ref b :: As) zz hP hD hS hA isC hnd hC
  exact va_runIN (zfix X) hM ⟨zcn X hy hl hrc hrs hR, hnm, X.2.2.2.2.2.1 _ hv⟩ hp rfl hn hls.1 hst hW hdg hf
theorem zcalli {S : Type} {post : Int32 → S → Prop} {W1 : S → va_W} {av : Array Value} (hr : va_Run p l e R s m args below meth c H locs cells slots mc ms (F0 m pc ls st0) rest (va_Qi post (fun u U => va_P (dC, dI) zcl (W1 u) U.heap ∧ va_D (va_A wc H.size) (W1 u)) (va_A wc H.size) av) (va_A wc H.size))
    (hP : va_P (dC, dI) zcl ws H) (hD : va_D A ws) (hS : va_S A s.heap H locs) (hA : ∀ q, s.heap.size ≤ q → A q) (isC isR : List Nat) (hC : isC.map (fun i => ws[i]?) = wc.map some) (hR : isR.map (fun i => ws[i]?) = wr.map some) (hn : va_nd isR = true) (hdis : ∀ i ∈ isR, i ∉ isC)
    (kk : ∀ (r : Int32) (u : S) (H1 : Heap) (locs1 : List Loc), post r u → va_P (dC, dI) zcl (wr ++ W1 u) H1 → va_D A (wr ++ W1 u) → va_S A s.heap H1 locs1 → W p l e R s m args below meth c H1 locs1 (cells + mc) (slots + ms) Q (F0 m (pc + 3) ls (.int r :: rest))) : W p l e R s m args below meth c H locs cells slots Q (F0 m pc ls st0) := by
  have hF : ∀ q, va_A wc H.size q → A q := va_free hD hS hA isC hC
  refine va_calli hr hS (fun q _ h => hF q h) hF (fun r u t H1 locs1 ht hvm hw hB hz1 hk1 hS1 => ?_)
  obtain ⟨hP1, hD1⟩ := hB
  rw [ht] at hP1
  obtain ⟨h1, h2⟩ := va_join hP hD isC isR hC hR hn hdis hk1 hF hP1 hD1
  exact kk r u H1 locs1 hw h1 h2 hS1
theorem zcalll {S : Type} {post : Int64 → S → Prop} {W1 : S → va_W} {av : Array Value} (hr : va_Run p l e R s m args below meth c H locs cells slots mc ms (F0 m pc ls st0) rest (va_Ql post (fun u U => va_P (dC, dI) zcl (W1 u) U.heap ∧ va_D (va_A wc H.size) (W1 u)) (va_A wc H.size) av) (va_A wc H.size))
    (hP : va_P (dC, dI) zcl ws H) (hD : va_D A ws) (hS : va_S A s.heap H locs) (hA : ∀ q, s.heap.size ≤ q → A q) (isC isR : List Nat) (hC : isC.map (fun i => ws[i]?) = wc.map some) (hR : isR.map (fun i => ws[i]?) = wr.map some) (hn : va_nd isR = true) (hdis : ∀ i ∈ isR, i ∉ isC)
    (kk : ∀ (r : Int64) (u : S) (H1 : Heap) (locs1 : List Loc), post r u → va_P (dC, dI) zcl (wr ++ W1 u) H1 → va_D A (wr ++ W1 u) → va_S A s.heap H1 locs1 → W p l e R s m args below meth c H1 locs1 (cells + mc) (slots + ms) Q (F0 m (pc + 3) ls (.long r :: rest))) : W p l e R s m args below meth c H locs cells slots Q (F0 m pc ls st0) := by
  have hF : ∀ q, va_A wc H.size q → A q := va_free hD hS hA isC hC
  refine va_calll hr hS (fun q _ h => hF q h) hF (fun r u t H1 locs1 ht hvm hw hB hz1 hk1 hS1 => ?_)
  obtain ⟨hP1, hD1⟩ := hB
  rw [ht] at hP1
  obtain ⟨h1, h2⟩ := va_join hP hD isC isR hC hR hn hdis hk1 hF hP1 hD1
  exact kk r u H1 locs1 hw h1 h2 hS1
theorem zcallv {S : Type} {post : S → Prop} {W1 : S → va_W} {av : Array Value} (hr : va_Run p l e R s m args below meth c H locs cells slots mc ms (F0 m pc ls st0) rest (va_Qv post (fun u U => va_P (dC, dI) zcl (W1 u) U.heap ∧ va_D (va_A wc H.size) (W1 u)) (va_A wc H.size) av) (va_A wc H.size))
    (hP : va_P (dC, dI) zcl ws H) (hD : va_D A ws) (hS : va_S A s.heap H locs) (hA : ∀ q, s.heap.size ≤ q → A q) (isC isR : List Nat) (hC : isC.map (fun i => ws[i]?) = wc.map some) (hR : isR.map (fun i => ws[i]?) = wr.map some) (hn : va_nd isR = true) (hdis : ∀ i ∈ isR, i ∉ isC)
    (kk : ∀ (u : S) (H1 : Heap) (locs1 : List Loc), post u → va_P (dC, dI) zcl (wr ++ W1 u) H1 → va_D A (wr ++ W1 u) → va_S A s.heap H1 locs1 → W p l e R s m args below meth c H1 locs1 (cells + mc) (slots + ms) Q (F0 m (pc + 3) ls rest)) : W p l e R s m args below meth c H locs cells slots Q (F0 m pc ls st0) := by
  have hF : ∀ q, va_A wc H.size q → A q := va_free hD hS hA isC hC
  refine va_callv hr hS (fun q _ h => hF q h) hF (fun u t H1 locs1 ht hvm hw hB hz1 hk1 hS1 => ?_)
  obtain ⟨hP1, hD1⟩ := hB
  rw [ht] at hP1
  obtain ⟨h1, h2⟩ := va_join hP hD isC isR hC hR hn hdis hk1 hF hP1 hD1
  exact kk u H1 locs1 hw h1 h2 hS1
end ZR
end
section
theorem zy_R_left : zy y_R_left b_R_left 1 (some .int) 0 := ⟨zmem 558 (by decide +kernel) (by decide +kernel), zmem 64 (by decide +kernel) (by decide +kernel), by decide +kernel⟩
theorem zv_R_left : Cond.instanceMethod y_R_left ∈ ztb ∧ Cond.selects y_R_left.cls y_R_left y_R_left ∈ ztb := ⟨zmem 556 (by decide +kernel) (by decide +kernel), zmem 557 (by decide +kernel) (by decide +kernel)⟩
theorem d_R_left_0 : decode b_R_left 0 = .ok (.aload_n 0, 1) := by decide +kernel
theorem d_R_left_1 : decode b_R_left 1 = .ok (.getfield 17, 3) := by decide +kernel
theorem d_R_left_4 : decode b_R_left 4 = .ok (.aload_n 0, 1) := by decide +kernel
theorem d_R_left_5 : decode b_R_left 5 = .ok (.getfield 13, 3) := by decide +kernel
theorem d_R_left_8 : decode b_R_left 8 = .ok (.isub, 1) := by decide +kernel
theorem d_R_left_9 : decode b_R_left 9 = .ok (.ireturn, 1) := by decide +kernel
theorem zy_R_takeBytes : zy y_R_takeBytes b_R_takeBytes 4 (some .int) 1 := ⟨zmem 575 (by decide +kernel) (by decide +kernel), zmem 64 (by decide +kernel) (by decide +kernel), by decide +kernel⟩
theorem zv_R_takeBytes : Cond.instanceMethod y_R_takeBytes ∈ ztb ∧ Cond.selects y_R_takeBytes.cls y_R_takeBytes y_R_takeBytes ∈ ztb := ⟨zmem 573 (by decide +kernel) (by decide +kernel), zmem 574 (by decide +kernel) (by decide +kernel)⟩
theorem d_R_takeBytes_0 : decode b_R_takeBytes 0 = .ok (.aload_n 0, 1) := by decide +kernel
theorem d_R_takeBytes_1 : decode b_R_takeBytes 1 = .ok (.getfield 13, 3) := by decide +kernel
theorem d_R_takeBytes_4 : decode b_R_takeBytes 4 = .ok (.istore_n 3, 1) := by decide +kernel
theorem d_R_takeBytes_5 : decode b_R_takeBytes 5 = .ok (.aload_n 0, 1) := by decide +kernel
theorem d_R_takeBytes_6 : decode b_R_takeBytes 6 = .ok (.getfield 20, 3) := by decide +kernel
theorem d_R_takeBytes_9 : decode b_R_takeBytes 9 = .ok (.ifCond .ne 13, 3) := by decide +kernel
theorem d_R_takeBytes_12 : decode b_R_takeBytes 12 = .ok (.lload_n 1, 1) := by decide +kernel
theorem d_R_takeBytes_13 : decode b_R_takeBytes 13 = .ok (.aload_n 0, 1) := by decide +kernel
theorem d_R_takeBytes_14 : decode b_R_takeBytes 14 = .ok (.invokevirtual 24, 3) := by decide +kernel
theorem d_R_takeBytes_17 : decode b_R_takeBytes 17 = .ok (.i2l, 1) := by decide +kernel
theorem d_R_takeBytes_18 : decode b_R_takeBytes 18 = .ok (.lcmp, 1) := by decide +kernel
theorem d_R_takeBytes_19 : decode b_R_takeBytes 19 = .ok (.ifCond .le 11, 3) := by decide +kernel
theorem d_R_takeBytes_22 : decode b_R_takeBytes 22 = .ok (.aload_n 0, 1) := by decide +kernel
theorem d_R_takeBytes_23 : decode b_R_takeBytes 23 = .ok (.iconst 1, 1) := by decide +kernel
theorem d_R_takeBytes_24 : decode b_R_takeBytes 24 = .ok (.putfield 20, 3) := by decide +kernel
theorem d_R_takeBytes_27 : decode b_R_takeBytes 27 = .ok (.goto 14, 3) := by decide +kernel
theorem d_R_takeBytes_30 : decode b_R_takeBytes 30 = .ok (.aload_n 0, 1) := by decide +kernel
theorem d_R_takeBytes_31 : decode b_R_takeBytes 31 = .ok (.dup, 1) := by decide +kernel
theorem d_R_takeBytes_32 : decode b_R_takeBytes 32 = .ok (.getfield 13, 3) := by decide +kernel
theorem d_R_takeBytes_35 : decode b_R_takeBytes 35 = .ok (.lload_n 1, 1) := by decide +kernel
theorem d_R_takeBytes_36 : decode b_R_takeBytes 36 = .ok (.l2i, 1) := by decide +kernel
theorem d_R_takeBytes_37 : decode b_R_takeBytes 37 = .ok (.iadd, 1) := by decide +kernel
theorem d_R_takeBytes_38 : decode b_R_takeBytes 38 = .ok (.putfield 13, 3) := by decide +kernel
theorem d_R_takeBytes_41 : decode b_R_takeBytes 41 = .ok (.iload_n 3, 1) := by decide +kernel
theorem d_R_takeBytes_42 : decode b_R_takeBytes 42 = .ok (.ireturn, 1) := by decide +kernel
theorem zy_T_byteAt : zy y_T_byteAt b_T_byteAt 2 (some .int) 1 := ⟨zmem 511 (by decide +kernel) (by decide +kernel), zmem 63 (by decide +kernel) (by decide +kernel), by decide +kernel⟩
theorem zv_T_byteAt : Cond.instanceMethod y_T_byteAt ∈ ztb ∧ Cond.selects y_T_byteAt.cls y_T_byteAt y_T_byteAt ∈ ztb := ⟨zmem 509 (by decide +kernel) (by decide +kernel), zmem 510 (by decide +kernel) (by decide +kernel)⟩
theorem d_T_byteAt_0 : decode b_T_byteAt 0 = .ok (.iload_n 1, 1) := by decide +kernel
theorem d_T_byteAt_1 : decode b_T_byteAt 1 = .ok (.ifCond .lt 25, 3) := by decide +kernel
theorem d_T_byteAt_4 : decode b_T_byteAt 4 = .ok (.iload_n 1, 1) := by decide +kernel
theorem d_T_byteAt_5 : decode b_T_byteAt 5 = .ok (.aload_n 0, 1) := by decide +kernel
theorem d_T_byteAt_6 : decode b_T_byteAt 6 = .ok (.getfield 9, 3) := by decide +kernel
theorem d_T_byteAt_9 : decode b_T_byteAt 9 = .ok (.arraylength, 1) := by decide +kernel
theorem d_T_byteAt_10 : decode b_T_byteAt 10 = .ok (.if_icmp .ge 16, 3) := by decide +kernel
theorem d_T_byteAt_13 : decode b_T_byteAt 13 = .ok (.aload_n 0, 1) := by decide +kernel
theorem d_T_byteAt_14 : decode b_T_byteAt 14 = .ok (.getfield 9, 3) := by decide +kernel
theorem d_T_byteAt_17 : decode b_T_byteAt 17 = .ok (.iload_n 1, 1) := by decide +kernel
theorem d_T_byteAt_18 : decode b_T_byteAt 18 = .ok (.baload, 1) := by decide +kernel
theorem d_T_byteAt_19 : decode b_T_byteAt 19 = .ok (.sipush 255, 3) := by decide +kernel
theorem d_T_byteAt_22 : decode b_T_byteAt 22 = .ok (.iand, 1) := by decide +kernel
theorem d_T_byteAt_23 : decode b_T_byteAt 23 = .ok (.goto 4, 3) := by decide +kernel
theorem d_T_byteAt_26 : decode b_T_byteAt 26 = .ok (.iconst 0, 1) := by decide +kernel
theorem d_T_byteAt_27 : decode b_T_byteAt 27 = .ok (.ireturn, 1) := by decide +kernel
theorem zy_T_wordAt : zy y_T_wordAt b_T_wordAt 6 (some .long) 2 := ⟨zmem 539 (by decide +kernel) (by decide +kernel), zmem 63 (by decide +kernel) (by decide +kernel), by decide +kernel⟩
theorem zv_T_wordAt : Cond.instanceMethod y_T_wordAt ∈ ztb ∧ Cond.selects y_T_wordAt.cls y_T_wordAt y_T_wordAt ∈ ztb := ⟨zmem 537 (by decide +kernel) (by decide +kernel), zmem 538 (by decide +kernel) (by decide +kernel)⟩
theorem d_T_wordAt_0 : decode b_T_wordAt 0 = .ok (.lconst 0, 1) := by decide +kernel
theorem d_T_wordAt_1 : decode b_T_wordAt 1 = .ok (.lstore_n 3, 1) := by decide +kernel
theorem d_T_wordAt_2 : decode b_T_wordAt 2 = .ok (.iload_n 1, 1) := by decide +kernel
theorem d_T_wordAt_3 : decode b_T_wordAt 3 = .ok (.istore 5, 2) := by decide +kernel
theorem d_T_wordAt_5 : decode b_T_wordAt 5 = .ok (.iload 5, 2) := by decide +kernel
theorem d_T_wordAt_7 : decode b_T_wordAt 7 = .ok (.iload_n 1, 1) := by decide +kernel
theorem d_T_wordAt_8 : decode b_T_wordAt 8 = .ok (.iload_n 2, 1) := by decide +kernel
theorem d_T_wordAt_9 : decode b_T_wordAt 9 = .ok (.iadd, 1) := by decide +kernel
theorem d_T_wordAt_10 : decode b_T_wordAt 10 = .ok (.if_icmp .ge 46, 3) := by decide +kernel
theorem d_T_wordAt_13 : decode b_T_wordAt 13 = .ok (.lload_n 3, 1) := by decide +kernel
theorem d_T_wordAt_14 : decode b_T_wordAt 14 = .ok (.bipush 8, 2) := by decide +kernel
theorem d_T_wordAt_16 : decode b_T_wordAt 16 = .ok (.lshl, 1) := by decide +kernel
theorem d_T_wordAt_17 : decode b_T_wordAt 17 = .ok (.iload 5, 2) := by decide +kernel
theorem d_T_wordAt_19 : decode b_T_wordAt 19 = .ok (.ifCond .lt 27, 3) := by decide +kernel
theorem d_T_wordAt_22 : decode b_T_wordAt 22 = .ok (.iload 5, 2) := by decide +kernel
theorem d_T_wordAt_24 : decode b_T_wordAt 24 = .ok (.aload_n 0, 1) := by decide +kernel
theorem d_T_wordAt_25 : decode b_T_wordAt 25 = .ok (.getfield 9, 3) := by decide +kernel
theorem d_T_wordAt_28 : decode b_T_wordAt 28 = .ok (.arraylength, 1) := by decide +kernel
theorem d_T_wordAt_29 : decode b_T_wordAt 29 = .ok (.if_icmp .ge 17, 3) := by decide +kernel
theorem d_T_wordAt_32 : decode b_T_wordAt 32 = .ok (.aload_n 0, 1) := by decide +kernel
theorem d_T_wordAt_33 : decode b_T_wordAt 33 = .ok (.getfield 9, 3) := by decide +kernel
theorem d_T_wordAt_36 : decode b_T_wordAt 36 = .ok (.iload 5, 2) := by decide +kernel
theorem d_T_wordAt_38 : decode b_T_wordAt 38 = .ok (.baload, 1) := by decide +kernel
theorem d_T_wordAt_39 : decode b_T_wordAt 39 = .ok (.sipush 255, 3) := by decide +kernel
theorem d_T_wordAt_42 : decode b_T_wordAt 42 = .ok (.iand, 1) := by decide +kernel
theorem d_T_wordAt_43 : decode b_T_wordAt 43 = .ok (.goto 4, 3) := by decide +kernel
theorem d_T_wordAt_46 : decode b_T_wordAt 46 = .ok (.iconst 0, 1) := by decide +kernel
theorem d_T_wordAt_47 : decode b_T_wordAt 47 = .ok (.i2l, 1) := by decide +kernel
theorem d_T_wordAt_48 : decode b_T_wordAt 48 = .ok (.lor, 1) := by decide +kernel
theorem d_T_wordAt_49 : decode b_T_wordAt 49 = .ok (.lstore_n 3, 1) := by decide +kernel
theorem d_T_wordAt_50 : decode b_T_wordAt 50 = .ok (.iinc 5 1, 3) := by decide +kernel
theorem d_T_wordAt_53 : decode b_T_wordAt 53 = .ok (.goto (-48), 3) := by decide +kernel
theorem d_T_wordAt_56 : decode b_T_wordAt 56 = .ok (.lload_n 3, 1) := by decide +kernel
theorem d_T_wordAt_57 : decode b_T_wordAt 57 = .ok (.lreturn, 1) := by decide +kernel
theorem znest_0 : Cond.fieldLinkNest R_D 88 "WireCodec" "SHAPES" "[I" "WireCodec" ∈ zN := zmemN 752 (by decide +kernel) rfl
theorem znest_1 : Cond.methodLinkNest R_D 92 y_W_isNumber "WireCodec" ∈ zN := zmemN 733 (by decide +kernel) rfl
theorem znest_2 : Cond.methodLinkNest R_W 11 y_T_init "WireCodec" ∈ zN := zmemN 91 (by decide +kernel) rfl
theorem znest_3 : Cond.methodLinkNest R_W 27 y_G_init "WireCodec" ∈ zN := zmemN 136 (by decide +kernel) rfl
theorem znest_4 : Cond.methodLinkNest R_W 34 y_F_init "WireCodec" ∈ zN := zmemN 171 (by decide +kernel) rfl
theorem znest_5 : Cond.methodLinkNest R_W 41 y_H_init "WireCodec" ∈ zN := zmemN 207 (by decide +kernel) rfl
theorem znest_6 : Cond.methodLinkNest R_W 48 y_D_init "WireCodec" ∈ zN := zmemN 218 (by decide +kernel) rfl
theorem znest_7 : Cond.fieldLinkNest R_F 29 "WireCodec" "SHAPES" "[I" "WireCodec" ∈ zN := zmemN 579 (by decide +kernel) rfl
theorem zin_120 : Cond.fieldLink R_R 17 "WireCodec$Reader" "limit" "I" ∈ ztb := zmem 118 (by decide +kernel) (by decide +kernel)
theorem zin_119 : Cond.fieldLink R_R 13 "WireCodec$Reader" "place" "I" ∈ ztb := zmem 114 (by decide +kernel) (by decide +kernel)
theorem zin_121 : Cond.fieldLink R_R 20 "WireCodec$Reader" "over" "Z" ∈ ztb := zmem 120 (by decide +kernel) (by decide +kernel)
theorem zin_122 : Cond.methodLink R_R 24 y_R_left ∈ ztb := zmem 576 (by decide +kernel) (by decide +kernel)
theorem zin_135 : Cond.fieldLink R_T 9 "WireCodec$Tape" "bytes" "[B" ∈ ztb := zmem 95 (by decide +kernel) (by decide +kernel)
end
section
noncomputable def g_R_left (r : zR) : Option (Int32) := some (r.2.1 - r.1)
def q_R_left (dC : Nat → ClassId) (dI : Nat → Nat → Nat) (cB cI cL : ClassId) (A : Nat → Prop) (hR : Nat) (hT : Nat) (r : zR) (a : Int32) : Array Value → State → Outcome → State → Prop := va_Qi (fun (r : Int32) (u : Unit) => (r) = a) (fun u U => va_P (dC, dI) zcl [(hR, .inr (2, [.ref hT, .int r.1, .int r.2.1, .int r.2.2]))] U.heap ∧ va_D A [(hR, .inr (2, [.ref hT, .int r.1, .int r.2.1, .int r.2.2]))]) A
set_option maxRecDepth 100000 in
set_option maxHeartbeats 4000000 in
theorem k_R_left_0 {p : Program} {l : Launch} {e : Env} {R : Room} {s : State} {m : MethodId} {args : Array Value} {below : List Frame} {meth : Method} {c : Code} {dC : Nat → ClassId} {dI : Nat → Nat → Nat} {cB cI cL : ClassId} {A : Nat → Prop} {hT : Nat} (X : zx p s m args meth c R R_R b_R_left (some .int) 1 0 0) (hA : ∀ q, s.heap.size ≤ q → A q) (zz : zk dC dI cB cI cL A s)  (r : zR) (a : Int32) (hG : g_R_left r = some a) (hR : Nat) (H : Heap) (locs : List Loc) (hP : va_P (dC, dI) zcl [(hR, .inr (2, [.ref hT, .int r.1, .int r.2.1, .int r.2.2]))] H) (hD : va_D A [(hR, .inr (2, [.ref hT, .int r.1, .int r.2.1, .int r.2.2]))]) (hS : va_S A s.heap H locs) (ls : Array Slot) (hl : lv_has ls 1 [(0, .ref hR)]) : W p l e R s m args below meth c H locs 0 0 (MQ below (q_R_left dC dI cB cI cL A hR hT r a) args s 0 0 A) (F0 m 0 ls []) := by
  obtain ⟨hx, hb, hr, hml, hown, hts, hlocks, hRf, hRl⟩ := id X
  unfold g_R_left at hG
  refine lv_aload_n hx hb d_R_left_0 rfl (lv_at hl 0 rfl) ?_
  refine va_get (D := (dC, dI)) (ci := 2) (v := .int r.2.1) (C := R_R) (T := F_R) (N := 4) hx hb hts zi_R hown zz.1 hP 0 rfl rfl 2 (by decide) (hts (.fieldLink R_R 17 "WireCodec$Reader" "limit" "I") (zin_120)) (fun _ h9 => h9) rfl d_R_left_1 ?_
  refine lv_aload_n hx hb d_R_left_4 rfl (lv_at hl 0 rfl) ?_
  refine va_get (D := (dC, dI)) (ci := 2) (v := .int r.1) (C := R_R) (T := F_R) (N := 4) hx hb hts zi_R hown zz.1 hP 0 rfl rfl 1 (by decide) (hts (.fieldLink R_R 13 "WireCodec$Reader" "place" "I") (zin_119)) (fun _ h9 => h9) rfl d_R_left_5 ?_
  refine lv_isub hx hb d_R_left_8 ?_
  exact W.iret (v := r.2.1 - r.1) hx hb hr (fun t9 ht9 hW9 => ⟨⟨r.2.1 - r.1, (), rfl, Option.some.inj hG, by rw [ht9]; exact hP.sub [0] rfl, hD.sub [0] (by decide) rfl⟩, hS.F ht9⟩) hS.2.2 d_R_left_9
set_option maxRecDepth 100000 in
set_option maxHeartbeats 4000000 in
theorem c_R_left (l : Launch) (dC : Nat → ClassId) (dI : Nat → Nat → Nat) (cB cI cL : ClassId) (sz : Nat) (hR hT : Nat) (r : zR) (a : Int32) (hG : g_R_left r = some a) : Met l y_R_left (zw y_R_left b_R_left 1 (some .int)) ({ frames := 0, cells := 0, slots := 0, locals := 0 }) (va_Pc [.ref hR] (zpre dC dI cB cI cL sz [(hR, .inr (2, [.ref hT, .int r.1, .int r.2.1, .int r.2.2]))])) (q_R_left dC dI cB cI cL (va_A [(hR, .inr (2, [.ref hT, .int r.1, .int r.2.1, .int r.2.2]))] sz) hR hT r a) 0 0 (va_A [(hR, .inr (2, [.ref hT, .int r.1, .int r.2.1, .int r.2.2]))] sz) := by
  refine Met.ofW (cc := b_R_left) (maxL := 1) (ret := (some .int)) (by decide) rfl ?_
  intro p e s m args below meth c s₁ B hml hv
  obtain ⟨rfl, hsz, hP, zz, hD0⟩ := hv
  subst hsz
  have X := zx_of (F := 0) (L := 0) B hml (Nat.le_refl _) (Nat.le_refl _)
  have hD := hD0.self (sz := s.heap.size)
  have hA : ∀ q : Nat, s.heap.size ≤ q → va_A [(hR, .inr (2, [.ref hT, .int r.1, .int r.2.1, .int r.2.2]))] s.heap.size q := fun q h => Or.inr h
  have hl := lv_entry ([.ref hR]) (n := 1) (Nat.le_of_ble_eq_true rfl)
  rw [lg_entry_eq]
  generalize (lg_sl ([.ref hR]) ++ List.replicate (1 - (lg_sl ([.ref hR])).length) Slot.unset).toArray = ls at hl ⊢
  exact k_R_left_0 X hA zz r a hG hR _ _ hP hD va_S.rf ls hl
noncomputable def g_R_takeBytes_41 (r : zR) (v3 : Int32) : Option (Int32 × zR) := some (v3, r)
noncomputable def g_R_takeBytes_22 (r : zR) (v3 : Int32) : Option (Int32 × zR) := g_R_takeBytes_41 (r.1, r.2.1, (1 : Int32)) v3
noncomputable def g_R_takeBytes_c14 (r : zR) (v1 : Int64) (r_14 : Int32) : Option (Int32 × zR) := if (lg_cmp v1 r_14.toInt64) ≤ (0 : Int32) then (g_R_takeBytes_41 (r.1 + v1.toInt32, r.2.1, r.2.2) r.1) else (g_R_takeBytes_22 r r.1)
noncomputable def g_R_takeBytes (r : zR) (v1 : Int64) : Option (Int32 × zR) := if r.2.2 = (0 : Int32) then ((g_R_left r).bind (fun a => g_R_takeBytes_c14 r v1 a)) else (g_R_takeBytes_22 r r.1)
def q_R_takeBytes (dC : Nat → ClassId) (dI : Nat → Nat → Nat) (cB cI cL : ClassId) (A : Nat → Prop) (hR : Nat) (hT : Nat) (a : Int32 × zR) : Array Value → State → Outcome → State → Prop := va_Qi (fun (r : Int32) (u : zR) => (r, u) = a) (fun u U => va_P (dC, dI) zcl [(hR, .inr (2, [.ref hT, .int u.1, .int u.2.1, .int u.2.2]))] U.heap ∧ va_D A [(hR, .inr (2, [.ref hT, .int u.1, .int u.2.1, .int u.2.2]))]) A
set_option maxRecDepth 100000 in
set_option maxHeartbeats 4000000 in
theorem k_R_takeBytes_41 {p : Program} {l : Launch} {e : Env} {R : Room} {s : State} {m : MethodId} {args : Array Value} {below : List Frame} {meth : Method} {c : Code} {dC : Nat → ClassId} {dI : Nat → Nat → Nat} {cB cI cL : ClassId} {A : Nat → Prop} {hT : Nat} (X : zx p s m args meth c R R_R b_R_takeBytes (some .int) 4 1 20) (hA : ∀ q, s.heap.size ≤ q → A q) (zz : zk dC dI cB cI cL A s)  (r : zR) (v3 : Int32) (a : Int32 × zR) (hG : g_R_takeBytes_41 r v3 = some a) (hR : Nat) (H : Heap) (locs : List Loc) (hP : va_P (dC, dI) zcl [(hR, .inr (2, [.ref hT, .int r.1, .int r.2.1, .int r.2.2]))] H) (hD : va_D A [(hR, .inr (2, [.ref hT, .int r.1, .int r.2.1, .int r.2.2]))]) (hS : va_S A s.heap H locs) (ls : Array Slot) (hl : lv_has ls 4 [(3, .int v3)]) : W p l e R s m args below meth c H locs 0 0 (MQ below (q_R_takeBytes dC dI cB cI cL A hR hT a) args s 0 0 A) (F0 m 41 ls []) := by
  obtain ⟨hx, hb, hr, hml, hown, hts, hlocks, hRf, hRl⟩ := id X
  unfold g_R_takeBytes_41 at hG
  refine lv_iload_n hx hb d_R_takeBytes_41 rfl (lv_at hl 0 rfl) ?_
  exact W.iret (v := v3) hx hb hr (fun t9 ht9 hW9 => ⟨⟨v3, (r), rfl, Option.some.inj hG, by rw [ht9]; exact hP.sub [0] rfl, hD.sub [0] (by decide) rfl⟩, hS.F ht9⟩) hS.2.2 d_R_takeBytes_42
set_option maxRecDepth 100000 in
set_option maxHeartbeats 4000000 in
theorem k_R_takeBytes_22 {p : Program} {l : Launch} {e : Env} {R : Room} {s : State} {m : MethodId} {args : Array Value} {below : List Frame} {meth : Method} {c : Code} {dC : Nat → ClassId} {dI : Nat → Nat → Nat} {cB cI cL : ClassId} {A : Nat → Prop} {hT : Nat} (X : zx p s m args meth c R R_R b_R_takeBytes (some .int) 4 1 20) (hA : ∀ q, s.heap.size ≤ q → A q) (zz : zk dC dI cB cI cL A s)  (r : zR) (v3 : Int32) (a : Int32 × zR) (hG : g_R_takeBytes_22 r v3 = some a) (hR : Nat) (H : Heap) (locs : List Loc) (hP : va_P (dC, dI) zcl [(hR, .inr (2, [.ref hT, .int r.1, .int r.2.1, .int r.2.2]))] H) (hD : va_D A [(hR, .inr (2, [.ref hT, .int r.1, .int r.2.1, .int r.2.2]))]) (hS : va_S A s.heap H locs) (ls : Array Slot) (hl : lv_has ls 4 [(0, .ref hR), (3, .int v3)]) : W p l e R s m args below meth c H locs 0 0 (MQ below (q_R_takeBytes dC dI cB cI cL A hR hT a) args s 0 0 A) (F0 m 22 ls []) := by
  obtain ⟨hx, hb, hr, hml, hown, hts, hlocks, hRf, hRl⟩ := id X
  unfold g_R_takeBytes_22 at hG
  refine lv_aload_n hx hb d_R_takeBytes_22 rfl (lv_at hl 0 rfl) ?_
  refine lv_iconst (v := (1 : Int32)) hx hb d_R_takeBytes_23 (by decide) ?_
  refine va_put (D := (dC, dI)) (ci := 2) (v := .int (1 : Int32)) (ty := .boolean) (C := R_R) (T := F_R) (N := 4) hx hb hts zi_R zty_R zty_R_ok znm_R hown zz.1 hP hD hS 0 rfl rfl 3 (by decide) (hts (.fieldLink R_R 20 "WireCodec$Reader" "over" "Z") (zin_121)) (fun _ h9 => h9) rfl (by decide +kernel) rfl rfl (Nat.le_of_ble_eq_true rfl) d_R_takeBytes_24 (fun H locs hP hD hS => ?_)
  have hP : va_P (dC, dI) zcl [(hR, .inr (2, [.ref hT, .int r.1, .int r.2.1, .int (1 : Int32)]))] H := hP
  have hD : va_D A [(hR, .inr (2, [.ref hT, .int r.1, .int r.2.1, .int (1 : Int32)]))] := hD
  refine lv_goto (tgt := 41) hx hb d_R_takeBytes_27 (by decide) ?_
  exact k_R_takeBytes_41 X hA zz (r.1, r.2.1, (1 : Int32)) v3 _ hG hR _ _ (hP.sub [0] rfl) (hD.sub [0] (by decide) rfl) hS _ (lv_sub hl [1] rfl)
set_option maxRecDepth 100000 in
set_option maxHeartbeats 4000000 in
theorem k_R_takeBytes_0 {p : Program} {l : Launch} {e : Env} {R : Room} {s : State} {m : MethodId} {args : Array Value} {below : List Frame} {meth : Method} {c : Code} {dC : Nat → ClassId} {dI : Nat → Nat → Nat} {cB cI cL : ClassId} {A : Nat → Prop} {hT : Nat} (X : zx p s m args meth c R R_R b_R_takeBytes (some .int) 4 1 20) (hA : ∀ q, s.heap.size ≤ q → A q) (zz : zk dC dI cB cI cL A s)  (r : zR) (v1 : Int64) (a : Int32 × zR) (hG : g_R_takeBytes r v1 = some a) (hR : Nat) (H : Heap) (locs : List Loc) (hP : va_P (dC, dI) zcl [(hR, .inr (2, [.ref hT, .int r.1, .int r.2.1, .int r.2.2]))] H) (hD : va_D A [(hR, .inr (2, [.ref hT, .int r.1, .int r.2.1, .int r.2.2]))]) (hS : va_S A s.heap H locs) (ls : Array Slot) (hl : lv_has ls 4 [(0, .ref hR), (1, .long v1)]) : W p l e R s m args below meth c H locs 0 0 (MQ below (q_R_takeBytes dC dI cB cI cL A hR hT a) args s 0 0 A) (F0 m 0 ls []) := by
  obtain ⟨hx, hb, hr, hml, hown, hts, hlocks, hRf, hRl⟩ := id X
  unfold g_R_takeBytes at hG
  refine lv_aload_n hx hb d_R_takeBytes_0 rfl (lv_at hl 0 rfl) ?_
  refine va_get (D := (dC, dI)) (ci := 2) (v := .int r.1) (C := R_R) (T := F_R) (N := 4) hx hb hts zi_R hown zz.1 hP 0 rfl rfl 1 (by decide) (hts (.fieldLink R_R 13 "WireCodec$Reader" "place" "I") (zin_119)) (fun _ h9 => h9) rfl d_R_takeBytes_1 ?_
  refine lv_istore_n (lv' := [(3, .int r.1), (0, .ref hR), (1, .long v1)]) hx hb d_R_takeBytes_4 rfl hl (by decide) rfl (fun ls hl => ?_)
  refine lv_aload_n hx hb d_R_takeBytes_5 rfl (lv_at hl 1 rfl) ?_
  refine va_get (D := (dC, dI)) (ci := 2) (v := .int r.2.2) (C := R_R) (T := F_R) (N := 4) hx hb hts zi_R hown zz.1 hP 0 rfl rfl 3 (by decide) (hts (.fieldLink R_R 20 "WireCodec$Reader" "over" "Z") (zin_121)) (fun _ h9 => h9) rfl d_R_takeBytes_6 ?_
  refine lv_if_ne (tgt := 22) hx hb d_R_takeBytes_9 (by decide) (fun hc => ?_) (fun hc => ?_)
  · have hG := zf hG hc
    exact k_R_takeBytes_22 X hA zz r r.1 _ hG hR _ _ (hP.sub [0] rfl) (hD.sub [0] (by decide) rfl) hS _ (lv_sub hl [1, 0] rfl)
  · have hG := zt hG hc
    refine lv_lload_n hx hb d_R_takeBytes_12 rfl (lv_at hl 2 rfl) ?_
    refine lv_aload_n hx hb d_R_takeBytes_13 rfl (lv_at hl 1 rfl) ?_
    obtain ⟨a_14, hx_14, hG⟩ := zb hG
    have hr_14 := zrunV (p := p) (e := e) (below := below) (meth := meth) (As := []) (rest := [.long v1]) (st0 := [.ref hR, .long v1]) (cells := 0) (slots := 0) X zz hP hD hS hA [0] (by decide) rfl (c_R_left l dC dI cB cI cL H.size hR hT r _ hx_14) zy_R_left zv_R_left (hts (.methodLink R_R 24 y_R_left) (zin_122)) hl rfl rfl d_R_takeBytes_14 (lv_room (Nat.le_of_ble_eq_true rfl)) rfl rfl ⟨Nat.le_trans (Nat.le_of_ble_eq_true rfl) hRf, Nat.le_trans (Nat.le_of_ble_eq_true rfl) hRl⟩ ⟨Nat.zero_le _, Nat.zero_le _⟩ 0 2 rfl rfl
    refine zcalli (wr := []) hr_14 hP hD hS hA [0] [] rfl rfl (by decide) (by decide) (fun r_14 u_14 H locs hw_14 hP hD hS => ?_)
    subst hw_14
    have hP : va_P (dC, dI) zcl [(hR, .inr (2, [.ref hT, .int r.1, .int r.2.1, .int r.2.2]))] H := hP
    have hD : va_D A [(hR, .inr (2, [.ref hT, .int r.1, .int r.2.1, .int r.2.2]))] := hD
    have hG : g_R_takeBytes_c14 r v1 r_14 = some a := hG
    unfold g_R_takeBytes_c14 at hG
    refine lv_i2l hx hb d_R_takeBytes_17 rfl ?_
    refine W.lcmp hx hb d_R_takeBytes_18 ?_
    refine lv_if_le (tgt := 30) hx hb d_R_takeBytes_19 (by decide) (fun hc => ?_) (fun hc => ?_)
    · have hG := zt hG hc
      refine lv_aload_n hx hb d_R_takeBytes_30 rfl (lv_at hl 1 rfl) ?_
      refine lv_dup hx hb d_R_takeBytes_31 rfl ?_
      refine va_get (D := (dC, dI)) (ci := 2) (v := .int r.1) (C := R_R) (T := F_R) (N := 4) hx hb hts zi_R hown zz.1 hP 0 rfl rfl 1 (by decide) (hts (.fieldLink R_R 13 "WireCodec$Reader" "place" "I") (zin_119)) (fun _ h9 => h9) rfl d_R_takeBytes_32 ?_
      refine lv_lload_n hx hb d_R_takeBytes_35 rfl (lv_at hl 2 rfl) ?_
      refine lv_l2i hx hb d_R_takeBytes_36 rfl ?_
      refine lv_iadd hx hb d_R_takeBytes_37 ?_
      refine va_put (D := (dC, dI)) (ci := 2) (v := .int (r.1 + v1.toInt32)) (ty := .int) (C := R_R) (T := F_R) (N := 4) hx hb hts zi_R zty_R zty_R_ok znm_R hown zz.1 hP hD hS 0 rfl rfl 1 (by decide) (hts (.fieldLink R_R 13 "WireCodec$Reader" "place" "I") (zin_119)) (fun _ h9 => h9) rfl (by decide +kernel) rfl rfl (Nat.le_of_ble_eq_true rfl) d_R_takeBytes_38 (fun H locs hP hD hS => ?_)
      have hP : va_P (dC, dI) zcl [(hR, .inr (2, [.ref hT, .int (r.1 + v1.toInt32), .int r.2.1, .int r.2.2]))] H := hP
      have hD : va_D A [(hR, .inr (2, [.ref hT, .int (r.1 + v1.toInt32), .int r.2.1, .int r.2.2]))] := hD
      exact k_R_takeBytes_41 X hA zz (r.1 + v1.toInt32, r.2.1, r.2.2) r.1 _ hG hR _ _ (hP.sub [0] rfl) (hD.sub [0] (by decide) rfl) hS _ (lv_sub hl [0] rfl)
    · have hG := zf hG hc
      exact k_R_takeBytes_22 X hA zz r r.1 _ hG hR _ _ (hP.sub [0] rfl) (hD.sub [0] (by decide) rfl) hS _ (lv_sub hl [1, 0] rfl)
set_option maxRecDepth 100000 in
set_option maxHeartbeats 4000000 in
theorem c_R_takeBytes (l : Launch) (dC : Nat → ClassId) (dI : Nat → Nat → Nat) (cB cI cL : ClassId) (sz : Nat) (hR hT : Nat) (r : zR) (v1 : Int64) (a : Int32 × zR) (hG : g_R_takeBytes r v1 = some a) : Met l y_R_takeBytes (zw y_R_takeBytes b_R_takeBytes 4 (some .int)) ({ frames := 1, cells := 0, slots := 0, locals := 20 }) (va_Pc [.ref hR, .long v1] (zpre dC dI cB cI cL sz [(hR, .inr (2, [.ref hT, .int r.1, .int r.2.1, .int r.2.2]))])) (q_R_takeBytes dC dI cB cI cL (va_A [(hR, .inr (2, [.ref hT, .int r.1, .int r.2.1, .int r.2.2]))] sz) hR hT a) 0 0 (va_A [(hR, .inr (2, [.ref hT, .int r.1, .int r.2.1, .int r.2.2]))] sz) := by
  refine Met.ofW (cc := b_R_takeBytes) (maxL := 4) (ret := (some .int)) (by decide) rfl ?_
  intro p e s m args below meth c s₁ B hml hv
  obtain ⟨rfl, hsz, hP, zz, hD0⟩ := hv
  subst hsz
  have X := zx_of (F := 1) (L := 20) B hml (Nat.le_refl _) (Nat.le_refl _)
  have hD := hD0.self (sz := s.heap.size)
  have hA : ∀ q : Nat, s.heap.size ≤ q → va_A [(hR, .inr (2, [.ref hT, .int r.1, .int r.2.1, .int r.2.2]))] s.heap.size q := fun q h => Or.inr h
  have hl := lv_entry ([.ref hR, .long v1]) (n := 4) (Nat.le_of_ble_eq_true rfl)
  rw [lg_entry_eq]
  generalize (lg_sl ([.ref hR, .long v1]) ++ List.replicate (4 - (lg_sl ([.ref hR, .long v1])).length) Slot.unset).toArray = ls at hl ⊢
  exact k_R_takeBytes_0 X hA zz r v1 a hG hR _ _ hP hD va_S.rf ls hl
noncomputable def g_T_byteAt_27 (t : zT) (s0 : Int32) : Option (Int32) := some (s0)
noncomputable def g_T_byteAt_26 (t : zT) : Option (Int32) := g_T_byteAt_27 t (0 : Int32)
noncomputable def g_T_byteAt (t : zT) (v1 : Int32) : Option (Int32) := if v1 < (0 : Int32) then (g_T_byteAt_26 t) else (if (nI t.2.1) ≤ v1 then (g_T_byteAt_26 t) else (zg (vp_in v1 t.2.1) (g_T_byteAt_27 t ((t.1 v1.toNatClampNeg) &&& (255 : Int32)))))
def q_T_byteAt (dC : Nat → ClassId) (dI : Nat → Nat → Nat) (cB cI cL : ClassId) (A : Nat → Prop) (hT : Nat) (hT_bytes : Nat) (t : zT) (a : Int32) : Array Value → State → Outcome → State → Prop := va_Qi (fun (r : Int32) (u : Unit) => (r) = a) (fun u U => va_P (dC, dI) zcl [(hT, .inr (1, [.ref hT_bytes, .int t.2.2.1, .int t.2.2.2])), (hT_bytes, .inl (cB, t.2.1, .inl t.1))] U.heap ∧ va_D A [(hT, .inr (1, [.ref hT_bytes, .int t.2.2.1, .int t.2.2.2])), (hT_bytes, .inl (cB, t.2.1, .inl t.1))]) A
set_option maxRecDepth 100000 in
set_option maxHeartbeats 4000000 in
theorem k_T_byteAt_27 {p : Program} {l : Launch} {e : Env} {R : Room} {s : State} {m : MethodId} {args : Array Value} {below : List Frame} {meth : Method} {c : Code} {dC : Nat → ClassId} {dI : Nat → Nat → Nat} {cB cI cL : ClassId} {A : Nat → Prop} (X : zx p s m args meth c R R_T b_T_byteAt (some .int) 2 0 0) (hA : ∀ q, s.heap.size ≤ q → A q) (zz : zk dC dI cB cI cL A s)  (t : zT) (s0 : Int32) (a : Int32) (hG : g_T_byteAt_27 t s0 = some a) (hT hT_bytes : Nat) (H : Heap) (locs : List Loc) (hP : va_P (dC, dI) zcl [(hT, .inr (1, [.ref hT_bytes, .int t.2.2.1, .int t.2.2.2])), (hT_bytes, .inl (cB, t.2.1, .inl t.1))] H) (hD : va_D A [(hT, .inr (1, [.ref hT_bytes, .int t.2.2.1, .int t.2.2.2])), (hT_bytes, .inl (cB, t.2.1, .inl t.1))]) (hS : va_S A s.heap H locs) (ls : Array Slot) (hl : lv_has ls 2 []) : W p l e R s m args below meth c H locs 0 0 (MQ below (q_T_byteAt dC dI cB cI cL A hT hT_bytes t a) args s 0 0 A) (F0 m 27 ls [.int s0]) := by
  obtain ⟨hx, hb, hr, hml, hown, hts, hlocks, hRf, hRl⟩ := id X
  unfold g_T_byteAt_27 at hG
  exact W.iret (v := s0) hx hb hr (fun t9 ht9 hW9 => ⟨⟨s0, (), rfl, Option.some.inj hG, by rw [ht9]; exact hP.sub [0, 1] rfl, hD.sub [0, 1] (by decide) rfl⟩, hS.F ht9⟩) hS.2.2 d_T_byteAt_27
set_option maxRecDepth 100000 in
set_option maxHeartbeats 4000000 in
theorem k_T_byteAt_26 {p : Program} {l : Launch} {e : Env} {R : Room} {s : State} {m : MethodId} {args : Array Value} {below : List Frame} {meth : Method} {c : Code} {dC : Nat → ClassId} {dI : Nat → Nat → Nat} {cB cI cL : ClassId} {A : Nat → Prop} (X : zx p s m args meth c R R_T b_T_byteAt (some .int) 2 0 0) (hA : ∀ q, s.heap.size ≤ q → A q) (zz : zk dC dI cB cI cL A s)  (t : zT) (a : Int32) (hG : g_T_byteAt_26 t = some a) (hT hT_bytes : Nat) (H : Heap) (locs : List Loc) (hP : va_P (dC, dI) zcl [(hT, .inr (1, [.ref hT_bytes, .int t.2.2.1, .int t.2.2.2])), (hT_bytes, .inl (cB, t.2.1, .inl t.1))] H) (hD : va_D A [(hT, .inr (1, [.ref hT_bytes, .int t.2.2.1, .int t.2.2.2])), (hT_bytes, .inl (cB, t.2.1, .inl t.1))]) (hS : va_S A s.heap H locs) (ls : Array Slot) (hl : lv_has ls 2 []) : W p l e R s m args below meth c H locs 0 0 (MQ below (q_T_byteAt dC dI cB cI cL A hT hT_bytes t a) args s 0 0 A) (F0 m 26 ls []) := by
  obtain ⟨hx, hb, hr, hml, hown, hts, hlocks, hRf, hRl⟩ := id X
  unfold g_T_byteAt_26 at hG
  refine lv_iconst (v := (0 : Int32)) hx hb d_T_byteAt_26 (by decide) ?_
  exact k_T_byteAt_27 X hA zz t (0 : Int32) _ hG hT hT_bytes _ _ (hP.sub [0, 1] rfl) (hD.sub [0, 1] (by decide) rfl) hS _ (lv_sub hl [] rfl)
set_option maxRecDepth 100000 in
set_option maxHeartbeats 4000000 in
theorem k_T_byteAt_0 {p : Program} {l : Launch} {e : Env} {R : Room} {s : State} {m : MethodId} {args : Array Value} {below : List Frame} {meth : Method} {c : Code} {dC : Nat → ClassId} {dI : Nat → Nat → Nat} {cB cI cL : ClassId} {A : Nat → Prop} (X : zx p s m args meth c R R_T b_T_byteAt (some .int) 2 0 0) (hA : ∀ q, s.heap.size ≤ q → A q) (zz : zk dC dI cB cI cL A s)  (t : zT) (v1 : Int32) (a : Int32) (hG : g_T_byteAt t v1 = some a) (hT hT_bytes : Nat) (H : Heap) (locs : List Loc) (hP : va_P (dC, dI) zcl [(hT, .inr (1, [.ref hT_bytes, .int t.2.2.1, .int t.2.2.2])), (hT_bytes, .inl (cB, t.2.1, .inl t.1))] H) (hD : va_D A [(hT, .inr (1, [.ref hT_bytes, .int t.2.2.1, .int t.2.2.2])), (hT_bytes, .inl (cB, t.2.1, .inl t.1))]) (hS : va_S A s.heap H locs) (ls : Array Slot) (hl : lv_has ls 2 [(0, .ref hT), (1, .int v1)]) : W p l e R s m args below meth c H locs 0 0 (MQ below (q_T_byteAt dC dI cB cI cL A hT hT_bytes t a) args s 0 0 A) (F0 m 0 ls []) := by
  obtain ⟨hx, hb, hr, hml, hown, hts, hlocks, hRf, hRl⟩ := id X
  unfold g_T_byteAt at hG
  refine lv_iload_n hx hb d_T_byteAt_0 rfl (lv_at hl 1 rfl) ?_
  refine lv_if_lt (tgt := 26) hx hb d_T_byteAt_1 (by decide) (fun hc => ?_) (fun hc => ?_)
  · have hG := zt hG hc
    exact k_T_byteAt_26 X hA zz t _ hG hT hT_bytes _ _ (hP.sub [0, 1] rfl) (hD.sub [0, 1] (by decide) rfl) hS _ (lv_sub hl [] rfl)
  · have hG := zf hG hc
    refine lv_iload_n hx hb d_T_byteAt_4 rfl (lv_at hl 1 rfl) ?_
    refine lv_aload_n hx hb d_T_byteAt_5 rfl (lv_at hl 0 rfl) ?_
    refine va_get (D := (dC, dI)) (ci := 1) (v := .ref hT_bytes) (C := R_T) (T := F_T) (N := 3) hx hb hts zi_T hown zz.1 hP 0 rfl rfl 0 (by decide) (hts (.fieldLink R_T 9 "WireCodec$Tape" "bytes" "[B") (zin_135)) (fun _ h9 => h9) rfl d_T_byteAt_6 ?_
    refine va_alen (v := nI t.2.1) hx hb zz.1 hP 1 0 rfl rfl rfl d_T_byteAt_9 ?_
    refine lv_icmp_ge (tgt := 26) hx hb d_T_byteAt_10 (by decide) (fun hc => ?_) (fun hc => ?_)
    · have hG := zt hG hc
      exact k_T_byteAt_26 X hA zz t _ hG hT hT_bytes _ _ (hP.sub [0, 1] rfl) (hD.sub [0, 1] (by decide) rfl) hS _ (lv_sub hl [] rfl)
    · have hG := zf hG hc
      refine lv_aload_n hx hb d_T_byteAt_13 rfl (lv_at hl 0 rfl) ?_
      refine va_get (D := (dC, dI)) (ci := 1) (v := .ref hT_bytes) (C := R_T) (T := F_T) (N := 3) hx hb hts zi_T hown zz.1 hP 0 rfl rfl 0 (by decide) (hts (.fieldLink R_T 9 "WireCodec$Tape" "bytes" "[B") (zin_135)) (fun _ h9 => h9) rfl d_T_byteAt_14 ?_
      refine lv_iload_n hx hb d_T_byteAt_17 rfl (lv_at hl 1 rfl) ?_
      obtain ⟨hin, hG⟩ := zgd hG
      refine va_bald hx hb zz.1 hP 1 0 rfl rfl hin d_T_byteAt_18 ?_
      refine lv_sipush (v := (255 : Int32)) hx hb d_T_byteAt_19 (by decide) ?_
      refine lv_iand hx hb d_T_byteAt_22 ?_
      refine lv_goto (tgt := 27) hx hb d_T_byteAt_23 (by decide) ?_
      exact k_T_byteAt_27 X hA zz t ((t.1 v1.toNatClampNeg) &&& (255 : Int32)) _ hG hT hT_bytes _ _ (hP.sub [0, 1] rfl) (hD.sub [0, 1] (by decide) rfl) hS _ (lv_sub hl [] rfl)
set_option maxRecDepth 100000 in
set_option maxHeartbeats 4000000 in
theorem c_T_byteAt (l : Launch) (dC : Nat → ClassId) (dI : Nat → Nat → Nat) (cB cI cL : ClassId) (sz : Nat) (hT hT_bytes : Nat) (t : zT) (v1 : Int32) (a : Int32) (hG : g_T_byteAt t v1 = some a) : Met l y_T_byteAt (zw y_T_byteAt b_T_byteAt 2 (some .int)) ({ frames := 0, cells := 0, slots := 0, locals := 0 }) (va_Pc [.ref hT, .int v1] (zpre dC dI cB cI cL sz [(hT, .inr (1, [.ref hT_bytes, .int t.2.2.1, .int t.2.2.2])), (hT_bytes, .inl (cB, t.2.1, .inl t.1))])) (q_T_byteAt dC dI cB cI cL (va_A [(hT, .inr (1, [.ref hT_bytes, .int t.2.2.1, .int t.2.2.2])), (hT_bytes, .inl (cB, t.2.1, .inl t.1))] sz) hT hT_bytes t a) 0 0 (va_A [(hT, .inr (1, [.ref hT_bytes, .int t.2.2.1, .int t.2.2.2])), (hT_bytes, .inl (cB, t.2.1, .inl t.1))] sz) := by
  refine Met.ofW (cc := b_T_byteAt) (maxL := 2) (ret := (some .int)) (by decide) rfl ?_
  intro p e s m args below meth c s₁ B hml hv
  obtain ⟨rfl, hsz, hP, zz, hD0⟩ := hv
  subst hsz
  have X := zx_of (F := 0) (L := 0) B hml (Nat.le_refl _) (Nat.le_refl _)
  have hD := hD0.self (sz := s.heap.size)
  have hA : ∀ q : Nat, s.heap.size ≤ q → va_A [(hT, .inr (1, [.ref hT_bytes, .int t.2.2.1, .int t.2.2.2])), (hT_bytes, .inl (cB, t.2.1, .inl t.1))] s.heap.size q := fun q h => Or.inr h
  have hl := lv_entry ([.ref hT, .int v1]) (n := 2) (Nat.le_of_ble_eq_true rfl)
  rw [lg_entry_eq]
  generalize (lg_sl ([.ref hT, .int v1]) ++ List.replicate (2 - (lg_sl ([.ref hT, .int v1])).length) Slot.unset).toArray = ls at hl ⊢
  exact k_T_byteAt_0 X hA zz t v1 a hG hT hT_bytes _ _ hP hD va_S.rf ls hl
noncomputable def g_T_wordAt_47 (N : Nat) (kr : zT → Int32 → Int32 → Int64 → Int32 → Option (Int64)) (t : zT) (v1 : Int32) (v2 : Int32) (v5 : Int32) (s0 : Int32) (s1 : Int64) : Option (Int64) := kr t v1 v2 (s1 ||| s0.toInt64) (v5 + 1)
noncomputable def g_T_wordAt_46 (N : Nat) (kr : zT → Int32 → Int32 → Int64 → Int32 → Option (Int64)) (t : zT) (v1 : Int32) (v2 : Int32) (v5 : Int32) (s0 : Int64) : Option (Int64) := g_T_wordAt_47 N kr t v1 v2 v5 (0 : Int32) s0
noncomputable def g_T_wordAt_5_b (N : Nat) (kr : zT → Int32 → Int32 → Int64 → Int32 → Option (Int64)) (t : zT) (v1 : Int32) (v2 : Int32) (v3 : Int64) (v5 : Int32) : Option (Int64) := if (v1 + v2) ≤ v5 then (some (v3)) else (if v5 < (0 : Int32) then (g_T_wordAt_46 N kr t v1 v2 v5 (v3 <<< ((8 : Int32).toInt64 &&& 63))) else (if (nI t.2.1) ≤ v5 then (g_T_wordAt_46 N kr t v1 v2 v5 (v3 <<< ((8 : Int32).toInt64 &&& 63))) else (zg (vp_in v5 t.2.1) (g_T_wordAt_47 N kr t v1 v2 v5 ((t.1 v5.toNatClampNeg) &&& (255 : Int32)) (v3 <<< ((8 : Int32).toInt64 &&& 63))))))
noncomputable def g_T_wordAt_5 (N : Nat) : Nat → zT → Int32 → Int32 → Int64 → Int32 → Option (Int64)
  | 0 => fun _ _ _ _ _ => none
  | k + 1 => fun t v1 v2 v3 v5 => g_T_wordAt_5_b N (g_T_wordAt_5 N k) t v1 v2 v3 v5
noncomputable def g_T_wordAt (N : Nat) (t : zT) (v1 : Int32) (v2 : Int32) : Option (Int64) := g_T_wordAt_5 N N t v1 v2 (0 : Int64) v1
def q_T_wordAt (dC : Nat → ClassId) (dI : Nat → Nat → Nat) (cB cI cL : ClassId) (A : Nat → Prop) (hT : Nat) (hT_bytes : Nat) (t : zT) (a : Int64) : Array Value → State → Outcome → State → Prop := va_Ql (fun (r : Int64) (u : Unit) => (r) = a) (fun u U => va_P (dC, dI) zcl [(hT, .inr (1, [.ref hT_bytes, .int t.2.2.1, .int t.2.2.2])), (hT_bytes, .inl (cB, t.2.1, .inl t.1))] U.heap ∧ va_D A [(hT, .inr (1, [.ref hT_bytes, .int t.2.2.1, .int t.2.2.2])), (hT_bytes, .inl (cB, t.2.1, .inl t.1))]) A
set_option maxRecDepth 100000 in
set_option maxHeartbeats 4000000 in
theorem k_T_wordAt_47 {p : Program} {l : Launch} {e : Env} {R : Room} {s : State} {m : MethodId} {args : Array Value} {below : List Frame} {meth : Method} {c : Code} {dC : Nat → ClassId} {dI : Nat → Nat → Nat} {cB cI cL : ClassId} {A : Nat → Prop} (kr : zT → Int32 → Int32 → Int64 → Int32 → Option (Int64)) (hrec : ∀ (t : zT) (v1 : Int32) (v2 : Int32) (v3 : Int64) (v5 : Int32) (a : Int64), kr t v1 v2 v3 v5 = some a → ∀ (hT hT_bytes : Nat) (H : Heap) (locs : List Loc), va_P (dC, dI) zcl [(hT, .inr (1, [.ref hT_bytes, .int t.2.2.1, .int t.2.2.2])), (hT_bytes, .inl (cB, t.2.1, .inl t.1))] H → va_D A [(hT, .inr (1, [.ref hT_bytes, .int t.2.2.1, .int t.2.2.2])), (hT_bytes, .inl (cB, t.2.1, .inl t.1))] → va_S A s.heap H locs → ∀ ls : Array Slot, lv_has ls 6 [(0, .ref hT), (1, .int v1), (2, .int v2), (3, .long v3), (5, .int v5)] → W p l e R s m args below meth c H locs 0 0 (MQ below (q_T_wordAt dC dI cB cI cL A hT hT_bytes t a) args s 0 0 A) (F0 m 5 ls [])) (X : zx p s m args meth c R R_T b_T_wordAt (some .long) 6 0 0) (hA : ∀ q, s.heap.size ≤ q → A q) (zz : zk dC dI cB cI cL A s)  (N : Nat) (t : zT) (v1 : Int32) (v2 : Int32) (v5 : Int32) (s0 : Int32) (s1 : Int64) (a : Int64) (hG : g_T_wordAt_47 N kr t v1 v2 v5 s0 s1 = some a) (hT hT_bytes : Nat) (H : Heap) (locs : List Loc) (hP : va_P (dC, dI) zcl [(hT, .inr (1, [.ref hT_bytes, .int t.2.2.1, .int t.2.2.2])), (hT_bytes, .inl (cB, t.2.1, .inl t.1))] H) (hD : va_D A [(hT, .inr (1, [.ref hT_bytes, .int t.2.2.1, .int t.2.2.2])), (hT_bytes, .inl (cB, t.2.1, .inl t.1))]) (hS : va_S A s.heap H locs) (ls : Array Slot) (hl : lv_has ls 6 [(0, .ref hT), (1, .int v1), (2, .int v2), (5, .int v5)]) : W p l e R s m args below meth c H locs 0 0 (MQ below (q_T_wordAt dC dI cB cI cL A hT hT_bytes t a) args s 0 0 A) (F0 m 47 ls [.int s0, .long s1]) := by
  obtain ⟨hx, hb, hr, hml, hown, hts, hlocks, hRf, hRl⟩ := id X
  unfold g_T_wordAt_47 at hG
  refine lv_i2l hx hb d_T_wordAt_47 rfl ?_
  refine lv_lor hx hb d_T_wordAt_48 ?_
  refine lv_lstore_n (lv' := [(3, .long (s1 ||| s0.toInt64)), (0, .ref hT), (1, .int v1), (2, .int v2), (5, .int v5)]) hx hb d_T_wordAt_49 rfl hl (by decide) rfl (fun ls hl => ?_)
  refine lv_iinc (v := v5 + 1) (lv' := [(5, .int (v5 + 1)), (3, .long (s1 ||| s0.toInt64)), (0, .ref hT), (1, .int v1), (2, .int v2)]) hx hb d_T_wordAt_50 hl (k := 4) rfl rfl (by decide) rfl (fun ls hl => ?_)
  refine lv_goto (tgt := 5) hx hb d_T_wordAt_53 (by decide) ?_
  exact hrec t v1 v2 (s1 ||| s0.toInt64) (v5 + 1) _ hG hT hT_bytes _ _ (hP.sub [0, 1] rfl) (hD.sub [0, 1] (by decide) rfl) hS _ (lv_sub hl [2, 3, 4, 1, 0] rfl)
set_option maxRecDepth 100000 in
set_option maxHeartbeats 4000000 in
theorem k_T_wordAt_46 {p : Program} {l : Launch} {e : Env} {R : Room} {s : State} {m : MethodId} {args : Array Value} {below : List Frame} {meth : Method} {c : Code} {dC : Nat → ClassId} {dI : Nat → Nat → Nat} {cB cI cL : ClassId} {A : Nat → Prop} (kr : zT → Int32 → Int32 → Int64 → Int32 → Option (Int64)) (hrec : ∀ (t : zT) (v1 : Int32) (v2 : Int32) (v3 : Int64) (v5 : Int32) (a : Int64), kr t v1 v2 v3 v5 = some a → ∀ (hT hT_bytes : Nat) (H : Heap) (locs : List Loc), va_P (dC, dI) zcl [(hT, .inr (1, [.ref hT_bytes, .int t.2.2.1, .int t.2.2.2])), (hT_bytes, .inl (cB, t.2.1, .inl t.1))] H → va_D A [(hT, .inr (1, [.ref hT_bytes, .int t.2.2.1, .int t.2.2.2])), (hT_bytes, .inl (cB, t.2.1, .inl t.1))] → va_S A s.heap H locs → ∀ ls : Array Slot, lv_has ls 6 [(0, .ref hT), (1, .int v1), (2, .int v2), (3, .long v3), (5, .int v5)] → W p l e R s m args below meth c H locs 0 0 (MQ below (q_T_wordAt dC dI cB cI cL A hT hT_bytes t a) args s 0 0 A) (F0 m 5 ls [])) (X : zx p s m args meth c R R_T b_T_wordAt (some .long) 6 0 0) (hA : ∀ q, s.heap.size ≤ q → A q) (zz : zk dC dI cB cI cL A s)  (N : Nat) (t : zT) (v1 : Int32) (v2 : Int32) (v5 : Int32) (s0 : Int64) (a : Int64) (hG : g_T_wordAt_46 N kr t v1 v2 v5 s0 = some a) (hT hT_bytes : Nat) (H : Heap) (locs : List Loc) (hP : va_P (dC, dI) zcl [(hT, .inr (1, [.ref hT_bytes, .int t.2.2.1, .int t.2.2.2])), (hT_bytes, .inl (cB, t.2.1, .inl t.1))] H) (hD : va_D A [(hT, .inr (1, [.ref hT_bytes, .int t.2.2.1, .int t.2.2.2])), (hT_bytes, .inl (cB, t.2.1, .inl t.1))]) (hS : va_S A s.heap H locs) (ls : Array Slot) (hl : lv_has ls 6 [(0, .ref hT), (1, .int v1), (2, .int v2), (5, .int v5)]) : W p l e R s m args below meth c H locs 0 0 (MQ below (q_T_wordAt dC dI cB cI cL A hT hT_bytes t a) args s 0 0 A) (F0 m 46 ls [.long s0]) := by
  obtain ⟨hx, hb, hr, hml, hown, hts, hlocks, hRf, hRl⟩ := id X
  unfold g_T_wordAt_46 at hG
  refine lv_iconst (v := (0 : Int32)) hx hb d_T_wordAt_46 (by decide) ?_
  exact k_T_wordAt_47 kr hrec X hA zz N t v1 v2 v5 (0 : Int32) s0 _ hG hT hT_bytes _ _ (hP.sub [0, 1] rfl) (hD.sub [0, 1] (by decide) rfl) hS _ (lv_sub hl [0, 1, 2, 3] rfl)
set_option maxRecDepth 100000 in
set_option maxHeartbeats 4000000 in
theorem k_T_wordAt_5_b {p : Program} {l : Launch} {e : Env} {R : Room} {s : State} {m : MethodId} {args : Array Value} {below : List Frame} {meth : Method} {c : Code} {dC : Nat → ClassId} {dI : Nat → Nat → Nat} {cB cI cL : ClassId} {A : Nat → Prop} (kr : zT → Int32 → Int32 → Int64 → Int32 → Option (Int64)) (hrec : ∀ (t : zT) (v1 : Int32) (v2 : Int32) (v3 : Int64) (v5 : Int32) (a : Int64), kr t v1 v2 v3 v5 = some a → ∀ (hT hT_bytes : Nat) (H : Heap) (locs : List Loc), va_P (dC, dI) zcl [(hT, .inr (1, [.ref hT_bytes, .int t.2.2.1, .int t.2.2.2])), (hT_bytes, .inl (cB, t.2.1, .inl t.1))] H → va_D A [(hT, .inr (1, [.ref hT_bytes, .int t.2.2.1, .int t.2.2.2])), (hT_bytes, .inl (cB, t.2.1, .inl t.1))] → va_S A s.heap H locs → ∀ ls : Array Slot, lv_has ls 6 [(0, .ref hT), (1, .int v1), (2, .int v2), (3, .long v3), (5, .int v5)] → W p l e R s m args below meth c H locs 0 0 (MQ below (q_T_wordAt dC dI cB cI cL A hT hT_bytes t a) args s 0 0 A) (F0 m 5 ls [])) (X : zx p s m args meth c R R_T b_T_wordAt (some .long) 6 0 0) (hA : ∀ q, s.heap.size ≤ q → A q) (zz : zk dC dI cB cI cL A s)  (N : Nat) (t : zT) (v1 : Int32) (v2 : Int32) (v3 : Int64) (v5 : Int32) (a : Int64) (hG : g_T_wordAt_5_b N kr t v1 v2 v3 v5 = some a) (hT hT_bytes : Nat) (H : Heap) (locs : List Loc) (hP : va_P (dC, dI) zcl [(hT, .inr (1, [.ref hT_bytes, .int t.2.2.1, .int t.2.2.2])), (hT_bytes, .inl (cB, t.2.1, .inl t.1))] H) (hD : va_D A [(hT, .inr (1, [.ref hT_bytes, .int t.2.2.1, .int t.2.2.2])), (hT_bytes, .inl (cB, t.2.1, .inl t.1))]) (hS : va_S A s.heap H locs) (ls : Array Slot) (hl : lv_has ls 6 [(0, .ref hT), (1, .int v1), (2, .int v2), (3, .long v3), (5, .int v5)]) : W p l e R s m args below meth c H locs 0 0 (MQ below (q_T_wordAt dC dI cB cI cL A hT hT_bytes t a) args s 0 0 A) (F0 m 5 ls []) := by
  obtain ⟨hx, hb, hr, hml, hown, hts, hlocks, hRf, hRl⟩ := id X
  unfold g_T_wordAt_5_b at hG
  refine lv_iload hx hb d_T_wordAt_5 (lv_at hl 4 rfl) ?_
  refine lv_iload_n hx hb d_T_wordAt_7 rfl (lv_at hl 1 rfl) ?_
  refine lv_iload_n hx hb d_T_wordAt_8 rfl (lv_at hl 2 rfl) ?_
  refine lv_iadd hx hb d_T_wordAt_9 ?_
  refine lv_icmp_ge (tgt := 56) hx hb d_T_wordAt_10 (by decide) (fun hc => ?_) (fun hc => ?_)
  · have hG := zt hG hc
    refine lv_lload_n hx hb d_T_wordAt_56 rfl (lv_at hl 3 rfl) ?_
    exact W.lret (v := v3) hx hb hr (fun t9 ht9 hW9 => ⟨⟨v3, (), rfl, Option.some.inj hG, by rw [ht9]; exact hP.sub [0, 1] rfl, hD.sub [0, 1] (by decide) rfl⟩, hS.F ht9⟩) hS.2.2 d_T_wordAt_57
  · have hG := zf hG hc
    refine lv_lload_n hx hb d_T_wordAt_13 rfl (lv_at hl 3 rfl) ?_
    refine lv_bipush (v := (8 : Int32)) hx hb d_T_wordAt_14 (by decide) ?_
    refine lv_lshl hx hb d_T_wordAt_16 rfl ?_
    refine lv_iload hx hb d_T_wordAt_17 (lv_at hl 4 rfl) ?_
    refine lv_if_lt (tgt := 46) hx hb d_T_wordAt_19 (by decide) (fun hc => ?_) (fun hc => ?_)
    · have hG := zt hG hc
      exact k_T_wordAt_46 kr hrec X hA zz N t v1 v2 v5 (v3 <<< ((8 : Int32).toInt64 &&& 63)) _ hG hT hT_bytes _ _ (hP.sub [0, 1] rfl) (hD.sub [0, 1] (by decide) rfl) hS _ (lv_sub hl [0, 1, 2, 4] rfl)
    · have hG := zf hG hc
      refine lv_iload hx hb d_T_wordAt_22 (lv_at hl 4 rfl) ?_
      refine lv_aload_n hx hb d_T_wordAt_24 rfl (lv_at hl 0 rfl) ?_
      refine va_get (D := (dC, dI)) (ci := 1) (v := .ref hT_bytes) (C := R_T) (T := F_T) (N := 3) hx hb hts zi_T hown zz.1 hP 0 rfl rfl 0 (by decide) (hts (.fieldLink R_T 9 "WireCodec$Tape" "bytes" "[B") (zin_135)) (fun _ h9 => h9) rfl d_T_wordAt_25 ?_
      refine va_alen (v := nI t.2.1) hx hb zz.1 hP 1 0 rfl rfl rfl d_T_wordAt_28 ?_
      refine lv_icmp_ge (tgt := 46) hx hb d_T_wordAt_29 (by decide) (fun hc => ?_) (fun hc => ?_)
      · have hG := zt hG hc
        exact k_T_wordAt_46 kr hrec X hA zz N t v1 v2 v5 (v3 <<< ((8 : Int32).toInt64 &&& 63)) _ hG hT hT_bytes _ _ (hP.sub [0, 1] rfl) (hD.sub [0, 1] (by decide) rfl) hS _ (lv_sub hl [0, 1, 2, 4] rfl)
      · have hG := zf hG hc
        refine lv_aload_n hx hb d_T_wordAt_32 rfl (lv_at hl 0 rfl) ?_
        refine va_get (D := (dC, dI)) (ci := 1) (v := .ref hT_bytes) (C := R_T) (T := F_T) (N := 3) hx hb hts zi_T hown zz.1 hP 0 rfl rfl 0 (by decide) (hts (.fieldLink R_T 9 "WireCodec$Tape" "bytes" "[B") (zin_135)) (fun _ h9 => h9) rfl d_T_wordAt_33 ?_
        refine lv_iload hx hb d_T_wordAt_36 (lv_at hl 4 rfl) ?_
        obtain ⟨hin, hG⟩ := zgd hG
        refine va_bald hx hb zz.1 hP 1 0 rfl rfl hin d_T_wordAt_38 ?_
        refine lv_sipush (v := (255 : Int32)) hx hb d_T_wordAt_39 (by decide) ?_
        refine lv_iand hx hb d_T_wordAt_42 ?_
        refine lv_goto (tgt := 47) hx hb d_T_wordAt_43 (by decide) ?_
        exact k_T_wordAt_47 kr hrec X hA zz N t v1 v2 v5 ((t.1 v5.toNatClampNeg) &&& (255 : Int32)) (v3 <<< ((8 : Int32).toInt64 &&& 63)) _ hG hT hT_bytes _ _ (hP.sub [0, 1] rfl) (hD.sub [0, 1] (by decide) rfl) hS _ (lv_sub hl [0, 1, 2, 4] rfl)
theorem k_T_wordAt_5 {p : Program} {l : Launch} {e : Env} {R : Room} {s : State} {m : MethodId} {args : Array Value} {below : List Frame} {meth : Method} {c : Code} {dC : Nat → ClassId} {dI : Nat → Nat → Nat} {cB cI cL : ClassId} {A : Nat → Prop} (X : zx p s m args meth c R R_T b_T_wordAt (some .long) 6 0 0) (hA : ∀ q, s.heap.size ≤ q → A q) (zz : zk dC dI cB cI cL A s)  (N : Nat) : ∀ (k : Nat) (t : zT) (v1 : Int32) (v2 : Int32) (v3 : Int64) (v5 : Int32) (a : Int64) (hG : g_T_wordAt_5 N k t v1 v2 v3 v5 = some a) (hT hT_bytes : Nat) (H : Heap) (locs : List Loc) (hP : va_P (dC, dI) zcl [(hT, .inr (1, [.ref hT_bytes, .int t.2.2.1, .int t.2.2.2])), (hT_bytes, .inl (cB, t.2.1, .inl t.1))] H) (hD : va_D A [(hT, .inr (1, [.ref hT_bytes, .int t.2.2.1, .int t.2.2.2])), (hT_bytes, .inl (cB, t.2.1, .inl t.1))]) (hS : va_S A s.heap H locs) (ls : Array Slot) (hl : lv_has ls 6 [(0, .ref hT), (1, .int v1), (2, .int v2), (3, .long v3), (5, .int v5)]), W p l e R s m args below meth c H locs 0 0 (MQ below (q_T_wordAt dC dI cB cI cL A hT hT_bytes t a) args s 0 0 A) (F0 m 5 ls []) := by
  intro k
  induction k with
  | zero => intro t v1 v2 v3 v5 a hG; exact absurd hG (by unfold g_T_wordAt_5; simp)
  | succ k ih => intro t v1 v2 v3 v5 a hG hT hT_bytes H locs hP hD hS ls hl; exact k_T_wordAt_5_b _ ih X hA zz N t v1 v2 v3 v5 a hG hT hT_bytes H locs hP hD hS ls hl
set_option maxRecDepth 100000 in
set_option maxHeartbeats 4000000 in
theorem k_T_wordAt_0 {p : Program} {l : Launch} {e : Env} {R : Room} {s : State} {m : MethodId} {args : Array Value} {below : List Frame} {meth : Method} {c : Code} {dC : Nat → ClassId} {dI : Nat → Nat → Nat} {cB cI cL : ClassId} {A : Nat → Prop} (X : zx p s m args meth c R R_T b_T_wordAt (some .long) 6 0 0) (hA : ∀ q, s.heap.size ≤ q → A q) (zz : zk dC dI cB cI cL A s)  (N : Nat) (t : zT) (v1 : Int32) (v2 : Int32) (a : Int64) (hG : g_T_wordAt N t v1 v2 = some a) (hT hT_bytes : Nat) (H : Heap) (locs : List Loc) (hP : va_P (dC, dI) zcl [(hT, .inr (1, [.ref hT_bytes, .int t.2.2.1, .int t.2.2.2])), (hT_bytes, .inl (cB, t.2.1, .inl t.1))] H) (hD : va_D A [(hT, .inr (1, [.ref hT_bytes, .int t.2.2.1, .int t.2.2.2])), (hT_bytes, .inl (cB, t.2.1, .inl t.1))]) (hS : va_S A s.heap H locs) (ls : Array Slot) (hl : lv_has ls 6 [(0, .ref hT), (1, .int v1), (2, .int v2)]) : W p l e R s m args below meth c H locs 0 0 (MQ below (q_T_wordAt dC dI cB cI cL A hT hT_bytes t a) args s 0 0 A) (F0 m 0 ls []) := by
  obtain ⟨hx, hb, hr, hml, hown, hts, hlocks, hRf, hRl⟩ := id X
  unfold g_T_wordAt at hG
  refine lv_lconst (v := (0 : Int64)) hx hb d_T_wordAt_0 (by decide) ?_
  refine lv_lstore_n (lv' := [(3, .long (0 : Int64)), (0, .ref hT), (1, .int v1), (2, .int v2)]) hx hb d_T_wordAt_1 rfl hl (by decide) rfl (fun ls hl => ?_)
  refine lv_iload_n hx hb d_T_wordAt_2 rfl (lv_at hl 2 rfl) ?_
  refine lv_istore (lv' := [(5, .int v1), (3, .long (0 : Int64)), (0, .ref hT), (1, .int v1), (2, .int v2)]) hx hb d_T_wordAt_3 hl (by decide) rfl (fun ls hl => ?_)
  exact k_T_wordAt_5 X hA zz N N t v1 v2 (0 : Int64) v1 _ hG hT hT_bytes _ _ (hP.sub [0, 1] rfl) (hD.sub [0, 1] (by decide) rfl) hS _ (lv_sub hl [2, 3, 4, 1, 0] rfl)
set_option maxRecDepth 100000 in
set_option maxHeartbeats 4000000 in
theorem c_T_wordAt (l : Launch) (dC : Nat → ClassId) (dI : Nat → Nat → Nat) (cB cI cL : ClassId) (sz : Nat) (hT hT_bytes : Nat) (N : Nat) (t : zT) (v1 : Int32) (v2 : Int32) (a : Int64) (hG : g_T_wordAt N t v1 v2 = some a) : Met l y_T_wordAt (zw y_T_wordAt b_T_wordAt 6 (some .long)) ({ frames := 0, cells := 0, slots := 0, locals := 0 }) (va_Pc [.ref hT, .int v1, .int v2] (zpre dC dI cB cI cL sz [(hT, .inr (1, [.ref hT_bytes, .int t.2.2.1, .int t.2.2.2])), (hT_bytes, .inl (cB, t.2.1, .inl t.1))])) (q_T_wordAt dC dI cB cI cL (va_A [(hT, .inr (1, [.ref hT_bytes, .int t.2.2.1, .int t.2.2.2])), (hT_bytes, .inl (cB, t.2.1, .inl t.1))] sz) hT hT_bytes t a) 0 0 (va_A [(hT, .inr (1, [.ref hT_bytes, .int t.2.2.1, .int t.2.2.2])), (hT_bytes, .inl (cB, t.2.1, .inl t.1))] sz) := by
  refine Met.ofW (cc := b_T_wordAt) (maxL := 6) (ret := (some .long)) (by decide) rfl ?_
  intro p e s m args below meth c s₁ B hml hv
  obtain ⟨rfl, hsz, hP, zz, hD0⟩ := hv
  subst hsz
  have X := zx_of (F := 0) (L := 0) B hml (Nat.le_refl _) (Nat.le_refl _)
  have hD := hD0.self (sz := s.heap.size)
  have hA : ∀ q : Nat, s.heap.size ≤ q → va_A [(hT, .inr (1, [.ref hT_bytes, .int t.2.2.1, .int t.2.2.2])), (hT_bytes, .inl (cB, t.2.1, .inl t.1))] s.heap.size q := fun q h => Or.inr h
  have hl := lv_entry ([.ref hT, .int v1, .int v2]) (n := 6) (Nat.le_of_ble_eq_true rfl)
  rw [lg_entry_eq]
  generalize (lg_sl ([.ref hT, .int v1, .int v2]) ++ List.replicate (6 - (lg_sl ([.ref hT, .int v1, .int v2])).length) Slot.unset).toArray = ls at hl ⊢
  exact k_T_wordAt_0 X hA zz N t v1 v2 a hG hT hT_bytes _ _ hP hD va_S.rf ls hl
end

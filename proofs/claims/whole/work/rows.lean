section
-- ===== PART A: goes FIRST, ahead of the names: the tables' words, and 'selects' of the private methods out of them =====
/-- a private method of a class that the tables say can be made, by its rows of tables_1 -/
def lw_okq (q : MethodName × Nat) : Prop := (q.1.cls ≠ "java/lang/invoke/MethodHandle" ∧ q.1.cls ≠ "java/lang/invoke/VarHandle") ∧ Cond.instantiable q.1.cls q.2 ∈ tables_1 ∧ Cond.privateMethod q.1 ∈ tables_1 ∧ Cond.instanceMethod q.1 ∈ tables_1
theorem lw_p0 : lw_okq (⟨"java/lang/Throwable", "fillInStackTrace", "(I)Ljava/lang/Throwable;"⟩, 6) := ⟨⟨by decide +kernel, by decide +kernel⟩, List.mem_of_getElem? (i := 318) (by decide +kernel), List.mem_of_getElem? (i := 316) (by decide +kernel), List.mem_of_getElem? (i := 317) (by decide +kernel)⟩
theorem lw_p1 : lw_okq (⟨"WireCodec", "keepWritten", "()I"⟩, 7) := ⟨⟨by decide +kernel, by decide +kernel⟩, List.mem_of_getElem? (i := 21) (by decide +kernel), List.mem_of_getElem? (i := 368) (by decide +kernel), List.mem_of_getElem? (i := 369) (by decide +kernel)⟩
theorem lw_p2 : lw_okq (⟨"WireCodec", "requireByte", "(I)V"⟩, 7) := ⟨⟨by decide +kernel, by decide +kernel⟩, List.mem_of_getElem? (i := 21) (by decide +kernel), List.mem_of_getElem? (i := 428) (by decide +kernel), List.mem_of_getElem? (i := 429) (by decide +kernel)⟩
theorem lw_p3 : lw_okq (⟨"WireCodec", "requirePlace", "(I)V"⟩, 7) := ⟨⟨by decide +kernel, by decide +kernel⟩, List.mem_of_getElem? (i := 21) (by decide +kernel), List.mem_of_getElem? (i := 488) (by decide +kernel), List.mem_of_getElem? (i := 489) (by decide +kernel)⟩
theorem lw_p4 : lw_okq (⟨"WireCodec$Frame", "forget", "()V"⟩, 7) := ⟨⟨by decide +kernel, by decide +kernel⟩, List.mem_of_getElem? (i := 109) (by decide +kernel), List.mem_of_getElem? (i := 503) (by decide +kernel), List.mem_of_getElem? (i := 504) (by decide +kernel)⟩
theorem lw_p5 : lw_okq (⟨"WireCodec$Frame", "takeShape", "(LWireCodec$Reader;I)V"⟩, 7) := ⟨⟨by decide +kernel, by decide +kernel⟩, List.mem_of_getElem? (i := 109) (by decide +kernel), List.mem_of_getElem? (i := 521) (by decide +kernel), List.mem_of_getElem? (i := 522) (by decide +kernel)⟩
theorem lw_p6 : lw_okq (⟨"WireCodec$Frame", "takeData", "(LWireCodec$Reader;J)V"⟩, 7) := ⟨⟨by decide +kernel, by decide +kernel⟩, List.mem_of_getElem? (i := 109) (by decide +kernel), List.mem_of_getElem? (i := 526) (by decide +kernel), List.mem_of_getElem? (i := 527) (by decide +kernel)⟩
theorem lw_p7 : lw_okq (⟨"WireCodec$Frame", "takeRest", "(LWireCodec$Reader;II)V"⟩, 7) := ⟨⟨by decide +kernel, by decide +kernel⟩, List.mem_of_getElem? (i := 109) (by decide +kernel), List.mem_of_getElem? (i := 531) (by decide +kernel), List.mem_of_getElem? (i := 532) (by decide +kernel)⟩
theorem lw_p8 : lw_okq (⟨"WireCodec$Frame", "takeRangeCount", "(LWireCodec$Reader;)V"⟩, 7) := ⟨⟨by decide +kernel, by decide +kernel⟩, List.mem_of_getElem? (i := 109) (by decide +kernel), List.mem_of_getElem? (i := 540) (by decide +kernel), List.mem_of_getElem? (i := 541) (by decide +kernel)⟩
theorem lw_p9 : lw_okq (⟨"WireCodec$Frame", "takeCounts", "(LWireCodec$Reader;I)V"⟩, 7) := ⟨⟨by decide +kernel, by decide +kernel⟩, List.mem_of_getElem? (i := 109) (by decide +kernel), List.mem_of_getElem? (i := 550) (by decide +kernel), List.mem_of_getElem? (i := 551) (by decide +kernel)⟩
theorem lw_p10 : lw_okq (⟨"WireCodec$Frame", "takeStream", "(LWireCodec$Reader;I)V"⟩, 7) := ⟨⟨by decide +kernel, by decide +kernel⟩, List.mem_of_getElem? (i := 109) (by decide +kernel), List.mem_of_getElem? (i := 554) (by decide +kernel), List.mem_of_getElem? (i := 555) (by decide +kernel)⟩
theorem lw_p11 : lw_okq (⟨"WireCodec$Reading", "keepPlace", "(II)V"⟩, 7) := ⟨⟨by decide +kernel, by decide +kernel⟩, List.mem_of_getElem? (i := 74) (by decide +kernel), List.mem_of_getElem? (i := 572) (by decide +kernel), List.mem_of_getElem? (i := 573) (by decide +kernel)⟩
theorem lw_p12 : lw_okq (⟨"WireCodec", "startAtFrame", "(I)V"⟩, 7) := ⟨⟨by decide +kernel, by decide +kernel⟩, List.mem_of_getElem? (i := 21) (by decide +kernel), List.mem_of_getElem? (i := 592) (by decide +kernel), List.mem_of_getElem? (i := 593) (by decide +kernel)⟩
theorem lw_p13 : lw_okq (⟨"WireCodec$Draft", "isAck", "()Z"⟩, 6) := ⟨⟨by decide +kernel, by decide +kernel⟩, List.mem_of_getElem? (i := 156) (by decide +kernel), List.mem_of_getElem? (i := 669) (by decide +kernel), List.mem_of_getElem? (i := 670) (by decide +kernel)⟩
theorem lw_p14 : lw_okq (⟨"WireCodec$Draft", "hasCounts", "()Z"⟩, 6) := ⟨⟨by decide +kernel, by decide +kernel⟩, List.mem_of_getElem? (i := 156) (by decide +kernel), List.mem_of_getElem? (i := 674) (by decide +kernel), List.mem_of_getElem? (i := 675) (by decide +kernel)⟩
theorem lw_p15 : lw_okq (⟨"WireCodec$Draft", "hasShape", "(I)Z"⟩, 6) := ⟨⟨by decide +kernel, by decide +kernel⟩, List.mem_of_getElem? (i := 156) (by decide +kernel), List.mem_of_getElem? (i := 681) (by decide +kernel), List.mem_of_getElem? (i := 682) (by decide +kernel)⟩
def lw_privs_1 : List (MethodName × Nat) := [(⟨"java/lang/Throwable", "fillInStackTrace", "(I)Ljava/lang/Throwable;"⟩, 6), (⟨"WireCodec", "keepWritten", "()I"⟩, 7), (⟨"WireCodec", "requireByte", "(I)V"⟩, 7), (⟨"WireCodec", "requirePlace", "(I)V"⟩, 7), (⟨"WireCodec$Frame", "forget", "()V"⟩, 7), (⟨"WireCodec$Frame", "takeShape", "(LWireCodec$Reader;I)V"⟩, 7), (⟨"WireCodec$Frame", "takeData", "(LWireCodec$Reader;J)V"⟩, 7), (⟨"WireCodec$Frame", "takeRest", "(LWireCodec$Reader;II)V"⟩, 7), (⟨"WireCodec$Frame", "takeRangeCount", "(LWireCodec$Reader;)V"⟩, 7), (⟨"WireCodec$Frame", "takeCounts", "(LWireCodec$Reader;I)V"⟩, 7), (⟨"WireCodec$Frame", "takeStream", "(LWireCodec$Reader;I)V"⟩, 7), (⟨"WireCodec$Reading", "keepPlace", "(II)V"⟩, 7), (⟨"WireCodec", "startAtFrame", "(I)V"⟩, 7), (⟨"WireCodec$Draft", "isAck", "()Z"⟩, 6), (⟨"WireCodec$Draft", "hasCounts", "()Z"⟩, 6), (⟨"WireCodec$Draft", "hasShape", "(I)Z"⟩, 6)]
theorem lw_r1 : ∀ q ∈ lw_privs_1, lw_okq q := List.forall_mem_cons.mpr ⟨lw_p0, List.forall_mem_cons.mpr ⟨lw_p1, List.forall_mem_cons.mpr ⟨lw_p2, List.forall_mem_cons.mpr ⟨lw_p3, List.forall_mem_cons.mpr ⟨lw_p4, List.forall_mem_cons.mpr ⟨lw_p5, List.forall_mem_cons.mpr ⟨lw_p6, List.forall_mem_cons.mpr ⟨lw_p7, List.forall_mem_cons.mpr ⟨lw_p8, List.forall_mem_cons.mpr ⟨lw_p9, List.forall_mem_cons.mpr ⟨lw_p10, List.forall_mem_cons.mpr ⟨lw_p11, List.forall_mem_cons.mpr ⟨lw_p12, List.forall_mem_cons.mpr ⟨lw_p13, List.forall_mem_cons.mpr ⟨lw_p14, List.forall_mem_cons.mpr ⟨lw_p15, fun _ h => absurd h List.not_mem_nil⟩⟩⟩⟩⟩⟩⟩⟩⟩⟩⟩⟩⟩⟩⟩⟩
theorem lw_p16 : lw_okq (⟨"WireCodec$Draft", "firstByte", "(I)I"⟩, 6) := ⟨⟨by decide +kernel, by decide +kernel⟩, List.mem_of_getElem? (i := 156) (by decide +kernel), List.mem_of_getElem? (i := 685) (by decide +kernel), List.mem_of_getElem? (i := 686) (by decide +kernel)⟩
theorem lw_p17 : lw_okq (⟨"WireCodec$Draft", "writeAck", "(LWireCodec$Tape;I)V"⟩, 6) := ⟨⟨by decide +kernel, by decide +kernel⟩, List.mem_of_getElem? (i := 156) (by decide +kernel), List.mem_of_getElem? (i := 700) (by decide +kernel), List.mem_of_getElem? (i := 701) (by decide +kernel)⟩
theorem lw_p18 : lw_okq (⟨"WireCodec$Draft", "writeShape", "(LWireCodec$Tape;I)V"⟩, 6) := ⟨⟨by decide +kernel, by decide +kernel⟩, List.mem_of_getElem? (i := 156) (by decide +kernel), List.mem_of_getElem? (i := 705) (by decide +kernel), List.mem_of_getElem? (i := 706) (by decide +kernel)⟩
theorem lw_p19 : lw_okq (⟨"WireCodec$Header", "parseLong", "(LWireCodec$Reader;I)I"⟩, 1) := ⟨⟨by decide +kernel, by decide +kernel⟩, List.mem_of_getElem? (i := 145) (by decide +kernel), List.mem_of_getElem? (i := 733) (by decide +kernel), List.mem_of_getElem? (i := 734) (by decide +kernel)⟩
theorem lw_p20 : lw_okq (⟨"WireCodec$Header", "sizeOfName", "(LWireCodec$Reader;I)I"⟩, 1) := ⟨⟨by decide +kernel, by decide +kernel⟩, List.mem_of_getElem? (i := 145) (by decide +kernel), List.mem_of_getElem? (i := 737) (by decide +kernel), List.mem_of_getElem? (i := 738) (by decide +kernel)⟩
theorem lw_p21 : lw_okq (⟨"WireCodec$Header", "parseTokenAndLength", "(LWireCodec$Reader;)I"⟩, 1) := ⟨⟨by decide +kernel, by decide +kernel⟩, List.mem_of_getElem? (i := 145) (by decide +kernel), List.mem_of_getElem? (i := 742) (by decide +kernel), List.mem_of_getElem? (i := 743) (by decide +kernel)⟩
theorem lw_p22 : lw_okq (⟨"WireCodec$Header", "parseShort", "(LWireCodec$Reader;II)I"⟩, 1) := ⟨⟨by decide +kernel, by decide +kernel⟩, List.mem_of_getElem? (i := 145) (by decide +kernel), List.mem_of_getElem? (i := 748) (by decide +kernel), List.mem_of_getElem? (i := 749) (by decide +kernel)⟩
theorem lw_p23 : lw_okq (⟨"WireCodecModel", "forget", "()V"⟩, 26) := ⟨⟨by decide +kernel, by decide +kernel⟩, List.mem_of_getElem? (i := 854) (by decide +kernel), List.mem_of_getElem? (i := 862) (by decide +kernel), List.mem_of_getElem? (i := 863) (by decide +kernel)⟩
theorem lw_p24 : lw_okq (⟨"WireCodecModel", "begin", "()V"⟩, 26) := ⟨⟨by decide +kernel, by decide +kernel⟩, List.mem_of_getElem? (i := 854) (by decide +kernel), List.mem_of_getElem? (i := 866) (by decide +kernel), List.mem_of_getElem? (i := 867) (by decide +kernel)⟩
theorem lw_p25 : lw_okq (⟨"WireCodecModel", "forgetParameters", "()V"⟩, 26) := ⟨⟨by decide +kernel, by decide +kernel⟩, List.mem_of_getElem? (i := 854) (by decide +kernel), List.mem_of_getElem? (i := 870) (by decide +kernel), List.mem_of_getElem? (i := 871) (by decide +kernel)⟩
theorem lw_p26 : lw_okq (⟨"WireCodecModel", "fails", "(ZI)Z"⟩, 26) := ⟨⟨by decide +kernel, by decide +kernel⟩, List.mem_of_getElem? (i := 854) (by decide +kernel), List.mem_of_getElem? (i := 973) (by decide +kernel), List.mem_of_getElem? (i := 974) (by decide +kernel)⟩
theorem lw_p27 : lw_okq (⟨"WireCodecModel", "write", "(JI)V"⟩, 26) := ⟨⟨by decide +kernel, by decide +kernel⟩, List.mem_of_getElem? (i := 854) (by decide +kernel), List.mem_of_getElem? (i := 977) (by decide +kernel), List.mem_of_getElem? (i := 978) (by decide +kernel)⟩
theorem lw_p28 : lw_okq (⟨"WireCodecModel", "writeNumber", "(JI)V"⟩, 26) := ⟨⟨by decide +kernel, by decide +kernel⟩, List.mem_of_getElem? (i := 854) (by decide +kernel), List.mem_of_getElem? (i := 995) (by decide +kernel), List.mem_of_getElem? (i := 996) (by decide +kernel)⟩
theorem lw_p29 : lw_okq (⟨"WireCodecModel", "byteAt", "(I)I"⟩, 26) := ⟨⟨by decide +kernel, by decide +kernel⟩, List.mem_of_getElem? (i := 854) (by decide +kernel), List.mem_of_getElem? (i := 1011) (by decide +kernel), List.mem_of_getElem? (i := 1012) (by decide +kernel)⟩
theorem lw_p30 : lw_okq (⟨"WireCodecModel", "look", "(II)V"⟩, 26) := ⟨⟨by decide +kernel, by decide +kernel⟩, List.mem_of_getElem? (i := 854) (by decide +kernel), List.mem_of_getElem? (i := 1019) (by decide +kernel), List.mem_of_getElem? (i := 1020) (by decide +kernel)⟩
theorem lw_p31 : lw_okq (⟨"WireCodecModel", "takeNumber", "()J"⟩, 26) := ⟨⟨by decide +kernel, by decide +kernel⟩, List.mem_of_getElem? (i := 854) (by decide +kernel), List.mem_of_getElem? (i := 1023) (by decide +kernel), List.mem_of_getElem? (i := 1024) (by decide +kernel)⟩
def lw_privs_2 : List (MethodName × Nat) := [(⟨"WireCodec$Draft", "firstByte", "(I)I"⟩, 6), (⟨"WireCodec$Draft", "writeAck", "(LWireCodec$Tape;I)V"⟩, 6), (⟨"WireCodec$Draft", "writeShape", "(LWireCodec$Tape;I)V"⟩, 6), (⟨"WireCodec$Header", "parseLong", "(LWireCodec$Reader;I)I"⟩, 1), (⟨"WireCodec$Header", "sizeOfName", "(LWireCodec$Reader;I)I"⟩, 1), (⟨"WireCodec$Header", "parseTokenAndLength", "(LWireCodec$Reader;)I"⟩, 1), (⟨"WireCodec$Header", "parseShort", "(LWireCodec$Reader;II)I"⟩, 1), (⟨"WireCodecModel", "forget", "()V"⟩, 26), (⟨"WireCodecModel", "begin", "()V"⟩, 26), (⟨"WireCodecModel", "forgetParameters", "()V"⟩, 26), (⟨"WireCodecModel", "fails", "(ZI)Z"⟩, 26), (⟨"WireCodecModel", "write", "(JI)V"⟩, 26), (⟨"WireCodecModel", "writeNumber", "(JI)V"⟩, 26), (⟨"WireCodecModel", "byteAt", "(I)I"⟩, 26), (⟨"WireCodecModel", "look", "(II)V"⟩, 26), (⟨"WireCodecModel", "takeNumber", "()J"⟩, 26)]
theorem lw_r2 : ∀ q ∈ lw_privs_2, lw_okq q := List.forall_mem_cons.mpr ⟨lw_p16, List.forall_mem_cons.mpr ⟨lw_p17, List.forall_mem_cons.mpr ⟨lw_p18, List.forall_mem_cons.mpr ⟨lw_p19, List.forall_mem_cons.mpr ⟨lw_p20, List.forall_mem_cons.mpr ⟨lw_p21, List.forall_mem_cons.mpr ⟨lw_p22, List.forall_mem_cons.mpr ⟨lw_p23, List.forall_mem_cons.mpr ⟨lw_p24, List.forall_mem_cons.mpr ⟨lw_p25, List.forall_mem_cons.mpr ⟨lw_p26, List.forall_mem_cons.mpr ⟨lw_p27, List.forall_mem_cons.mpr ⟨lw_p28, List.forall_mem_cons.mpr ⟨lw_p29, List.forall_mem_cons.mpr ⟨lw_p30, List.forall_mem_cons.mpr ⟨lw_p31, fun _ h => absurd h List.not_mem_nil⟩⟩⟩⟩⟩⟩⟩⟩⟩⟩⟩⟩⟩⟩⟩⟩
theorem lw_p32 : lw_okq (⟨"WireCodecModel", "take", "(I)J"⟩, 26) := ⟨⟨by decide +kernel, by decide +kernel⟩, List.mem_of_getElem? (i := 854) (by decide +kernel), List.mem_of_getElem? (i := 1027) (by decide +kernel), List.mem_of_getElem? (i := 1028) (by decide +kernel)⟩
theorem lw_p33 : lw_okq (⟨"WireCodecModel", "flaw", "(II)I"⟩, 26) := ⟨⟨by decide +kernel, by decide +kernel⟩, List.mem_of_getElem? (i := 854) (by decide +kernel), List.mem_of_getElem? (i := 1035) (by decide +kernel), List.mem_of_getElem? (i := 1036) (by decide +kernel)⟩
theorem lw_p34 : lw_okq (⟨"WireCodecModel", "kindAt", "(I)I"⟩, 26) := ⟨⟨by decide +kernel, by decide +kernel⟩, List.mem_of_getElem? (i := 854) (by decide +kernel), List.mem_of_getElem? (i := 1039) (by decide +kernel), List.mem_of_getElem? (i := 1040) (by decide +kernel)⟩
theorem lw_p35 : lw_okq (⟨"WireCodecModel", "parse", "(II)V"⟩, 26) := ⟨⟨by decide +kernel, by decide +kernel⟩, List.mem_of_getElem? (i := 854) (by decide +kernel), List.mem_of_getElem? (i := 1043) (by decide +kernel), List.mem_of_getElem? (i := 1044) (by decide +kernel)⟩
theorem lw_p36 : lw_okq (⟨"WireCodecModel", "takePadding", "()V"⟩, 26) := ⟨⟨by decide +kernel, by decide +kernel⟩, List.mem_of_getElem? (i := 854) (by decide +kernel), List.mem_of_getElem? (i := 1047) (by decide +kernel), List.mem_of_getElem? (i := 1048) (by decide +kernel)⟩
theorem lw_p37 : lw_okq (⟨"WireCodecModel", "takeAck", "(I)V"⟩, 26) := ⟨⟨by decide +kernel, by decide +kernel⟩, List.mem_of_getElem? (i := 854) (by decide +kernel), List.mem_of_getElem? (i := 1054) (by decide +kernel), List.mem_of_getElem? (i := 1055) (by decide +kernel)⟩
theorem lw_p38 : lw_okq (⟨"WireCodecModel", "takeStream", "(I)V"⟩, 26) := ⟨⟨by decide +kernel, by decide +kernel⟩, List.mem_of_getElem? (i := 854) (by decide +kernel), List.mem_of_getElem? (i := 1058) (by decide +kernel), List.mem_of_getElem? (i := 1059) (by decide +kernel)⟩
theorem lw_p39 : lw_okq (⟨"WireCodecModel", "takeData", "(J)V"⟩, 26) := ⟨⟨by decide +kernel, by decide +kernel⟩, List.mem_of_getElem? (i := 854) (by decide +kernel), List.mem_of_getElem? (i := 1062) (by decide +kernel), List.mem_of_getElem? (i := 1063) (by decide +kernel)⟩
theorem lw_p40 : lw_okq (⟨"WireCodecModel", "pass", "(J)I"⟩, 26) := ⟨⟨by decide +kernel, by decide +kernel⟩, List.mem_of_getElem? (i := 854) (by decide +kernel), List.mem_of_getElem? (i := 1066) (by decide +kernel), List.mem_of_getElem? (i := 1067) (by decide +kernel)⟩
theorem lw_p41 : lw_okq (⟨"WireCodecModel", "takeName", "()V"⟩, 26) := ⟨⟨by decide +kernel, by decide +kernel⟩, List.mem_of_getElem? (i := 854) (by decide +kernel), List.mem_of_getElem? (i := 1070) (by decide +kernel), List.mem_of_getElem? (i := 1071) (by decide +kernel)⟩
theorem lw_p42 : lw_okq (⟨"WireCodecModel", "takeFields", "(I)V"⟩, 26) := ⟨⟨by decide +kernel, by decide +kernel⟩, List.mem_of_getElem? (i := 854) (by decide +kernel), List.mem_of_getElem? (i := 1074) (by decide +kernel), List.mem_of_getElem? (i := 1075) (by decide +kernel)⟩
theorem lw_p43 : lw_okq (⟨"WireCodecModel", "isRight", "(I)Z"⟩, 26) := ⟨⟨by decide +kernel, by decide +kernel⟩, List.mem_of_getElem? (i := 854) (by decide +kernel), List.mem_of_getElem? (i := 1082) (by decide +kernel), List.mem_of_getElem? (i := 1083) (by decide +kernel)⟩
theorem lw_p44 : lw_okq (⟨"WireCodecModel", "edge", "(IZ)J"⟩, 26) := ⟨⟨by decide +kernel, by decide +kernel⟩, List.mem_of_getElem? (i := 854) (by decide +kernel), List.mem_of_getElem? (i := 1086) (by decide +kernel), List.mem_of_getElem? (i := 1087) (by decide +kernel)⟩
theorem lw_p45 : lw_okq (⟨"WireCodecModel", "tell", "(II)V"⟩, 26) := ⟨⟨by decide +kernel, by decide +kernel⟩, List.mem_of_getElem? (i := 854) (by decide +kernel), List.mem_of_getElem? (i := 1091) (by decide +kernel), List.mem_of_getElem? (i := 1092) (by decide +kernel)⟩
theorem lw_p46 : lw_okq (⟨"WireCodecModel", "parsed", "(I)Z"⟩, 26) := ⟨⟨by decide +kernel, by decide +kernel⟩, List.mem_of_getElem? (i := 854) (by decide +kernel), List.mem_of_getElem? (i := 1104) (by decide +kernel), List.mem_of_getElem? (i := 1105) (by decide +kernel)⟩
theorem lw_p47 : lw_okq (⟨"WireCodecModel", "suits", "(I)Z"⟩, 26) := ⟨⟨by decide +kernel, by decide +kernel⟩, List.mem_of_getElem? (i := 854) (by decide +kernel), List.mem_of_getElem? (i := 1138) (by decide +kernel), List.mem_of_getElem? (i := 1139) (by decide +kernel)⟩
def lw_privs_3 : List (MethodName × Nat) := [(⟨"WireCodecModel", "take", "(I)J"⟩, 26), (⟨"WireCodecModel", "flaw", "(II)I"⟩, 26), (⟨"WireCodecModel", "kindAt", "(I)I"⟩, 26), (⟨"WireCodecModel", "parse", "(II)V"⟩, 26), (⟨"WireCodecModel", "takePadding", "()V"⟩, 26), (⟨"WireCodecModel", "takeAck", "(I)V"⟩, 26), (⟨"WireCodecModel", "takeStream", "(I)V"⟩, 26), (⟨"WireCodecModel", "takeData", "(J)V"⟩, 26), (⟨"WireCodecModel", "pass", "(J)I"⟩, 26), (⟨"WireCodecModel", "takeName", "()V"⟩, 26), (⟨"WireCodecModel", "takeFields", "(I)V"⟩, 26), (⟨"WireCodecModel", "isRight", "(I)Z"⟩, 26), (⟨"WireCodecModel", "edge", "(IZ)J"⟩, 26), (⟨"WireCodecModel", "tell", "(II)V"⟩, 26), (⟨"WireCodecModel", "parsed", "(I)Z"⟩, 26), (⟨"WireCodecModel", "suits", "(I)Z"⟩, 26)]
theorem lw_r3 : ∀ q ∈ lw_privs_3, lw_okq q := List.forall_mem_cons.mpr ⟨lw_p32, List.forall_mem_cons.mpr ⟨lw_p33, List.forall_mem_cons.mpr ⟨lw_p34, List.forall_mem_cons.mpr ⟨lw_p35, List.forall_mem_cons.mpr ⟨lw_p36, List.forall_mem_cons.mpr ⟨lw_p37, List.forall_mem_cons.mpr ⟨lw_p38, List.forall_mem_cons.mpr ⟨lw_p39, List.forall_mem_cons.mpr ⟨lw_p40, List.forall_mem_cons.mpr ⟨lw_p41, List.forall_mem_cons.mpr ⟨lw_p42, List.forall_mem_cons.mpr ⟨lw_p43, List.forall_mem_cons.mpr ⟨lw_p44, List.forall_mem_cons.mpr ⟨lw_p45, List.forall_mem_cons.mpr ⟨lw_p46, List.forall_mem_cons.mpr ⟨lw_p47, fun _ h => absurd h List.not_mem_nil⟩⟩⟩⟩⟩⟩⟩⟩⟩⟩⟩⟩⟩⟩⟩⟩
theorem lw_p48 : lw_okq (⟨"WireCodecModel", "sizeOf", "(I)I"⟩, 26) := ⟨⟨by decide +kernel, by decide +kernel⟩, List.mem_of_getElem? (i := 854) (by decide +kernel), List.mem_of_getElem? (i := 1145) (by decide +kernel), List.mem_of_getElem? (i := 1146) (by decide +kernel)⟩
theorem lw_p49 : lw_okq (⟨"WireCodecModel", "writeAck", "(I)V"⟩, 26) := ⟨⟨by decide +kernel, by decide +kernel⟩, List.mem_of_getElem? (i := 854) (by decide +kernel), List.mem_of_getElem? (i := 1149) (by decide +kernel), List.mem_of_getElem? (i := 1150) (by decide +kernel)⟩
theorem lw_p50 : lw_okq (⟨"WireCodecModel", "writeStream", "()V"⟩, 26) := ⟨⟨by decide +kernel, by decide +kernel⟩, List.mem_of_getElem? (i := 854) (by decide +kernel), List.mem_of_getElem? (i := 1153) (by decide +kernel), List.mem_of_getElem? (i := 1154) (by decide +kernel)⟩
theorem lw_p51 : lw_okq (⟨"WireCodecModel", "writeGiven", "(I)V"⟩, 26) := ⟨⟨by decide +kernel, by decide +kernel⟩, List.mem_of_getElem? (i := 854) (by decide +kernel), List.mem_of_getElem? (i := 1157) (by decide +kernel), List.mem_of_getElem? (i := 1158) (by decide +kernel)⟩
theorem lw_p52 : lw_okq (⟨"WireCodecModel", "writeFields", "(I)V"⟩, 26) := ⟨⟨by decide +kernel, by decide +kernel⟩, List.mem_of_getElem? (i := 854) (by decide +kernel), List.mem_of_getElem? (i := 1161) (by decide +kernel), List.mem_of_getElem? (i := 1162) (by decide +kernel)⟩
theorem lw_p53 : lw_okq (⟨"WireCodecModel", "headerFlaw", "(II)I"⟩, 26) := ⟨⟨by decide +kernel, by decide +kernel⟩, List.mem_of_getElem? (i := 854) (by decide +kernel), List.mem_of_getElem? (i := 1170) (by decide +kernel), List.mem_of_getElem? (i := 1171) (by decide +kernel)⟩
theorem lw_p54 : lw_okq (⟨"WireCodecModel", "note", "(II)V"⟩, 26) := ⟨⟨by decide +kernel, by decide +kernel⟩, List.mem_of_getElem? (i := 854) (by decide +kernel), List.mem_of_getElem? (i := 1174) (by decide +kernel), List.mem_of_getElem? (i := 1175) (by decide +kernel)⟩
theorem lw_p55 : lw_okq (⟨"WireCodecModel", "shortFlaw", "(II)I"⟩, 26) := ⟨⟨by decide +kernel, by decide +kernel⟩, List.mem_of_getElem? (i := 854) (by decide +kernel), List.mem_of_getElem? (i := 1178) (by decide +kernel), List.mem_of_getElem? (i := 1179) (by decide +kernel)⟩
theorem lw_p56 : lw_okq (⟨"WireCodecModel", "longFlaw", "(I)I"⟩, 26) := ⟨⟨by decide +kernel, by decide +kernel⟩, List.mem_of_getElem? (i := 854) (by decide +kernel), List.mem_of_getElem? (i := 1182) (by decide +kernel), List.mem_of_getElem? (i := 1183) (by decide +kernel)⟩
theorem lw_p57 : lw_okq (⟨"WireCodecModel", "takeConnection", "(I)I"⟩, 26) := ⟨⟨by decide +kernel, by decide +kernel⟩, List.mem_of_getElem? (i := 854) (by decide +kernel), List.mem_of_getElem? (i := 1186) (by decide +kernel), List.mem_of_getElem? (i := 1187) (by decide +kernel)⟩
theorem lw_p58 : lw_okq (⟨"WireCodecModel", "isSame", "()Z"⟩, 26) := ⟨⟨by decide +kernel, by decide +kernel⟩, List.mem_of_getElem? (i := 854) (by decide +kernel), List.mem_of_getElem? (i := 1194) (by decide +kernel), List.mem_of_getElem? (i := 1195) (by decide +kernel)⟩
theorem lw_p59 : lw_okq (⟨"WireCodecModel", "parameterFlaw", "(ZI)I"⟩, 26) := ⟨⟨by decide +kernel, by decide +kernel⟩, List.mem_of_getElem? (i := 854) (by decide +kernel), List.mem_of_getElem? (i := 1222) (by decide +kernel), List.mem_of_getElem? (i := 1223) (by decide +kernel)⟩
theorem lw_p60 : lw_okq (⟨"WireCodecModel", "suitsId", "(III)Z"⟩, 26) := ⟨⟨by decide +kernel, by decide +kernel⟩, List.mem_of_getElem? (i := 854) (by decide +kernel), List.mem_of_getElem? (i := 1226) (by decide +kernel), List.mem_of_getElem? (i := 1227) (by decide +kernel)⟩
def lw_privs_4 : List (MethodName × Nat) := [(⟨"WireCodecModel", "sizeOf", "(I)I"⟩, 26), (⟨"WireCodecModel", "writeAck", "(I)V"⟩, 26), (⟨"WireCodecModel", "writeStream", "()V"⟩, 26), (⟨"WireCodecModel", "writeGiven", "(I)V"⟩, 26), (⟨"WireCodecModel", "writeFields", "(I)V"⟩, 26), (⟨"WireCodecModel", "headerFlaw", "(II)I"⟩, 26), (⟨"WireCodecModel", "note", "(II)V"⟩, 26), (⟨"WireCodecModel", "shortFlaw", "(II)I"⟩, 26), (⟨"WireCodecModel", "longFlaw", "(I)I"⟩, 26), (⟨"WireCodecModel", "takeConnection", "(I)I"⟩, 26), (⟨"WireCodecModel", "isSame", "()Z"⟩, 26), (⟨"WireCodecModel", "parameterFlaw", "(ZI)I"⟩, 26), (⟨"WireCodecModel", "suitsId", "(III)Z"⟩, 26)]
theorem lw_r4 : ∀ q ∈ lw_privs_4, lw_okq q := List.forall_mem_cons.mpr ⟨lw_p48, List.forall_mem_cons.mpr ⟨lw_p49, List.forall_mem_cons.mpr ⟨lw_p50, List.forall_mem_cons.mpr ⟨lw_p51, List.forall_mem_cons.mpr ⟨lw_p52, List.forall_mem_cons.mpr ⟨lw_p53, List.forall_mem_cons.mpr ⟨lw_p54, List.forall_mem_cons.mpr ⟨lw_p55, List.forall_mem_cons.mpr ⟨lw_p56, List.forall_mem_cons.mpr ⟨lw_p57, List.forall_mem_cons.mpr ⟨lw_p58, List.forall_mem_cons.mpr ⟨lw_p59, List.forall_mem_cons.mpr ⟨lw_p60, fun _ h => absurd h List.not_mem_nil⟩⟩⟩⟩⟩⟩⟩⟩⟩⟩⟩⟩⟩
def lw_privs : List (MethodName × Nat) := lw_privs_1 ++ (lw_privs_2 ++ (lw_privs_3 ++ (lw_privs_4)))
def lw_tbl : List Cond := k2_sels lw_privs ++ tables_1
theorem lw_privs_ok : ∀ q ∈ lw_privs, lw_okq q := by
  show ∀ q ∈ lw_privs_1 ++ (lw_privs_2 ++ (lw_privs_3 ++ (lw_privs_4))), lw_okq q
  exact List.forall_mem_append.mpr ⟨lw_r1, List.forall_mem_append.mpr ⟨lw_r2, List.forall_mem_append.mpr ⟨lw_r3, lw_r4⟩⟩⟩
end
section
def R_W : String := "WireCodec"
def F_W : u_T := fun k => match k with
  | 0 => ("WireCodec", "tape", "LWireCodec$Tape;", true)
  | 1 => ("WireCodec", "reader", "LWireCodec$Reader;", true)
  | 2 => ("WireCodec", "reading", "LWireCodec$Reading;", true)
  | 3 => ("WireCodec", "loadedFrame", "LWireCodec$Frame;", true)
  | 4 => ("WireCodec", "loadedHeader", "LWireCodec$Header;", true)
  | 5 => ("WireCodec", "drafted", "LWireCodec$Draft;", true)
  | _ => ("WireCodec", "told", "LWireCodec$Parameters;", true)
def zty_W : Nat → FieldType := fun k => match k with
  | 0 => .object "WireCodec$Tape"
  | 1 => .object "WireCodec$Reader"
  | 2 => .object "WireCodec$Reading"
  | 3 => .object "WireCodec$Frame"
  | 4 => .object "WireCodec$Header"
  | 5 => .object "WireCodec$Draft"
  | _ => .object "WireCodec$Parameters"
theorem znm_W : ∀ a, a < 7 → ∀ b, b < 7 → a ≠ b → (F_W a).2.1 ≠ (F_W b).2.1 := by decide +kernel
theorem zty_W_ok : ∀ k, k < 7 → parseFieldDescriptor (F_W k).2.2.1 = some (zty_W k) := by decide +kernel
def R_T : String := "WireCodec$Tape"
def F_T : u_T := fun k => match k with
  | 0 => ("WireCodec$Tape", "bytes", "[B", false)
  | 1 => ("WireCodec$Tape", "cursor", "I", false)
  | _ => ("WireCodec$Tape", "length", "I", false)
def zty_T : Nat → FieldType := fun k => match k with
  | 0 => .array .byte
  | 1 => .int
  | _ => .int
theorem znm_T : ∀ a, a < 3 → ∀ b, b < 3 → a ≠ b → (F_T a).2.1 ≠ (F_T b).2.1 := by decide +kernel
theorem zty_T_ok : ∀ k, k < 3 → parseFieldDescriptor (F_T k).2.2.1 = some (zty_T k) := by decide +kernel
def R_R : String := "WireCodec$Reader"
def F_R : u_T := fun k => match k with
  | 0 => ("WireCodec$Reader", "tape", "LWireCodec$Tape;", true)
  | 1 => ("WireCodec$Reader", "place", "I", false)
  | 2 => ("WireCodec$Reader", "limit", "I", false)
  | _ => ("WireCodec$Reader", "over", "Z", false)
def zty_R : Nat → FieldType := fun k => match k with
  | 0 => .object "WireCodec$Tape"
  | 1 => .int
  | 2 => .int
  | _ => .boolean
theorem znm_R : ∀ a, a < 4 → ∀ b, b < 4 → a ≠ b → (F_R a).2.1 ≠ (F_R b).2.1 := by decide +kernel
theorem zty_R_ok : ∀ k, k < 4 → parseFieldDescriptor (F_R k).2.2.1 = some (zty_R k) := by decide +kernel
def R_G : String := "WireCodec$Reading"
def F_G : u_T := fun k => match k with
  | 0 => ("WireCodec$Reading", "places", "[I", false)
  | 1 => ("WireCodec$Reading", "frameCount", "I", false)
  | 2 => ("WireCodec$Reading", "packetCount", "I", false)
  | 3 => ("WireCodec$Reading", "limit", "I", false)
  | 4 => ("WireCodec$Reading", "names", "I", false)
  | 5 => ("WireCodec$Reading", "wrong", "I", false)
  | _ => ("WireCodec$Reading", "wrongPlace", "I", false)
def zty_G : Nat → FieldType := fun k => match k with
  | 0 => .array .int
  | 1 => .int
  | 2 => .int
  | 3 => .int
  | 4 => .int
  | 5 => .int
  | _ => .int
theorem znm_G : ∀ a, a < 7 → ∀ b, b < 7 → a ≠ b → (F_G a).2.1 ≠ (F_G b).2.1 := by decide +kernel
theorem zty_G_ok : ∀ k, k < 7 → parseFieldDescriptor (F_G k).2.2.1 = some (zty_G k) := by decide +kernel
def R_F : String := "WireCodec$Frame"
def F_F : u_T := fun k => match k with
  | 0 => ("WireCodec$Frame", "parts", "[J", true)
  | 1 => ("WireCodec$Frame", "dataPlace", "I", false)
  | 2 => ("WireCodec$Frame", "secretPlace", "I", false)
  | 3 => ("WireCodec$Frame", "secretBytes", "I", false)
  | 4 => ("WireCodec$Frame", "rangesPlace", "I", false)
  | 5 => ("WireCodec$Frame", "low", "J", false)
  | _ => ("WireCodec$Frame", "high", "J", false)
def zty_F : Nat → FieldType := fun k => match k with
  | 0 => .array .long
  | 1 => .int
  | 2 => .int
  | 3 => .int
  | 4 => .int
  | 5 => .long
  | _ => .long
theorem znm_F : ∀ a, a < 7 → ∀ b, b < 7 → a ≠ b → (F_F a).2.1 ≠ (F_F b).2.1 := by decide +kernel
theorem zty_F_ok : ∀ k, k < 7 → parseFieldDescriptor (F_F k).2.2.1 = some (zty_F k) := by decide +kernel
def R_H : String := "WireCodec$Header"
def F_H : u_T := fun k => match k with
  | _ => ("WireCodec$Header", "parts", "[I", true)
def zty_H : Nat → FieldType := fun k => match k with
  | _ => .array .int
theorem znm_H : ∀ a, a < 1 → ∀ b, b < 1 → a ≠ b → (F_H a).2.1 ≠ (F_H b).2.1 := by decide +kernel
theorem zty_H_ok : ∀ k, k < 1 → parseFieldDescriptor (F_H k).2.2.1 = some (zty_H k) := by decide +kernel
def R_D : String := "WireCodec$Draft"
def F_D : u_T := fun k => match k with
  | 0 => ("WireCodec$Draft", "parts", "[J", true)
  | 1 => ("WireCodec$Draft", "bytes", "[B", true)
  | 2 => ("WireCodec$Draft", "lows", "[J", true)
  | 3 => ("WireCodec$Draft", "highs", "[J", true)
  | 4 => ("WireCodec$Draft", "length", "I", false)
  | _ => ("WireCodec$Draft", "ranges", "I", false)
def zty_D : Nat → FieldType := fun k => match k with
  | 0 => .array .long
  | 1 => .array .byte
  | 2 => .array .long
  | 3 => .array .long
  | 4 => .int
  | _ => .int
theorem znm_D : ∀ a, a < 6 → ∀ b, b < 6 → a ≠ b → (F_D a).2.1 ≠ (F_D b).2.1 := by decide +kernel
theorem zty_D_ok : ∀ k, k < 6 → parseFieldDescriptor (F_D k).2.2.1 = some (zty_D k) := by decide +kernel
def R_P : String := "WireCodec$Parameters"
def F_P : u_T := fun k => match k with
  | 0 => ("WireCodec$Parameters", "values", "[J", true)
  | _ => ("WireCodec$Parameters", "seen", "I", false)
def zty_P : Nat → FieldType := fun k => match k with
  | 0 => .array .long
  | _ => .int
theorem znm_P : ∀ a, a < 2 → ∀ b, b < 2 → a ≠ b → (F_P a).2.1 ≠ (F_P b).2.1 := by decide +kernel
theorem zty_P_ok : ∀ k, k < 2 → parseFieldDescriptor (F_P k).2.2.1 = some (zty_P k) := by decide +kernel
def R_M : String := "WireCodecModel"
def F_M : u_T := fun k => match k with
  | 0 => ("WireCodecModel", "thrown", "I", false)
  | 1 => ("WireCodecModel", "tape", "[B", true)
  | 2 => ("WireCodecModel", "size", "I", false)
  | 3 => ("WireCodecModel", "fault", "I", false)
  | 4 => ("WireCodecModel", "faultAt", "I", false)
  | 5 => ("WireCodecModel", "frames", "I", false)
  | 6 => ("WireCodecModel", "frameAt", "[I", true)
  | 7 => ("WireCodecModel", "framesEnd", "I", false)
  | 8 => ("WireCodecModel", "field", "[J", true)
  | 9 => ("WireCodecModel", "dataAt", "I", false)
  | 10 => ("WireCodecModel", "dataSize", "I", false)
  | 11 => ("WireCodecModel", "secretAt", "I", false)
  | 12 => ("WireCodecModel", "ranges", "I", false)
  | 13 => ("WireCodecModel", "rangesAt", "I", false)
  | 14 => ("WireCodecModel", "at", "I", false)
  | 15 => ("WireCodecModel", "over", "Z", false)
  | 16 => ("WireCodecModel", "end", "I", false)
  | 17 => ("WireCodecModel", "draft", "[J", true)
  | 18 => ("WireCodecModel", "given", "[B", true)
  | 19 => ("WireCodecModel", "gives", "I", false)
  | 20 => ("WireCodecModel", "low", "[J", true)
  | 21 => ("WireCodecModel", "high", "[J", true)
  | 22 => ("WireCodecModel", "spans", "I", false)
  | 23 => ("WireCodecModel", "packets", "I", false)
  | 24 => ("WireCodecModel", "packet", "[I", true)
  | _ => ("WireCodecModel", "known", "[J", true)
def zty_M : Nat → FieldType := fun k => match k with
  | 0 => .int
  | 1 => .array .byte
  | 2 => .int
  | 3 => .int
  | 4 => .int
  | 5 => .int
  | 6 => .array .int
  | 7 => .int
  | 8 => .array .long
  | 9 => .int
  | 10 => .int
  | 11 => .int
  | 12 => .int
  | 13 => .int
  | 14 => .int
  | 15 => .boolean
  | 16 => .int
  | 17 => .array .long
  | 18 => .array .byte
  | 19 => .int
  | 20 => .array .long
  | 21 => .array .long
  | 22 => .int
  | 23 => .int
  | 24 => .array .int
  | _ => .array .long
theorem znm_M : ∀ a, a < 26 → ∀ b, b < 26 → a ≠ b → (F_M a).2.1 ≠ (F_M b).2.1 := by decide +kernel
theorem zty_M_ok : ∀ k, k < 26 → parseFieldDescriptor (F_M k).2.2.1 = some (zty_M k) := by decide +kernel
def R_Ar : String := "java/util/Arrays"
def R_In : String := "java/lang/Integer"
def R_Ma : String := "java/lang/Math"
def R_L : String := "WireCodecLaw"
abbrev b_W_init : ByteArray := prog_1_method_1_code
def y_W_init : MethodName := ⟨R_W, "<init>", "()V"⟩
abbrev b_W_feed : ByteArray := prog_1_method_2_code
def y_W_feed : MethodName := ⟨R_W, "feed", "(JI)I"⟩
abbrev b_W_number : ByteArray := prog_1_method_3_code
def y_W_number : MethodName := ⟨R_W, "number", "(JI)I"⟩
abbrev b_W_clear : ByteArray := prog_1_method_4_code
def y_W_clear : MethodName := ⟨R_W, "clear", "()I"⟩
abbrev b_W_size : ByteArray := prog_1_method_5_code
def y_W_size : MethodName := ⟨R_W, "size", "()I"⟩
abbrev b_W_at : ByteArray := prog_1_method_6_code
def y_W_at : MethodName := ⟨R_W, "at", "(I)I"⟩
abbrev b_W_read : ByteArray := prog_1_method_7_code
def y_W_read : MethodName := ⟨R_W, "read", "(I)J"⟩
abbrev b_W_frames : ByteArray := prog_1_method_8_code
def y_W_frames : MethodName := ⟨R_W, "frames", "(II)I"⟩
abbrev b_W_fault : ByteArray := prog_1_method_9_code
def y_W_fault : MethodName := ⟨R_W, "fault", "(Z)I"⟩
abbrev b_W_frame : ByteArray := prog_1_method_10_code
def y_W_frame : MethodName := ⟨R_W, "frame", "(II)J"⟩
abbrev b_W_data : ByteArray := prog_1_method_11_code
def y_W_data : MethodName := ⟨R_W, "data", "(IIZ)I"⟩
abbrev b_W_range : ByteArray := prog_1_method_12_code
def y_W_range : MethodName := ⟨R_W, "range", "(IIZ)J"⟩
abbrev b_W_draft : ByteArray := prog_1_method_13_code
def y_W_draft : MethodName := ⟨R_W, "draft", "()V"⟩
abbrev b_W_set : ByteArray := prog_1_method_14_code
def y_W_set : MethodName := ⟨R_W, "set", "(IJ)V"⟩
abbrev b_W_add : ByteArray := prog_1_method_15_code
def y_W_add : MethodName := ⟨R_W, "add", "(JI)I"⟩
abbrev b_W_span : ByteArray := prog_1_method_16_code
def y_W_span : MethodName := ⟨R_W, "span", "(JJ)V"⟩
abbrev b_W_put : ByteArray := prog_1_method_17_code
def y_W_put : MethodName := ⟨R_W, "put", "(I)I"⟩
abbrev b_W_head : ByteArray := prog_1_method_18_code
def y_W_head : MethodName := ⟨R_W, "head", "(II)I"⟩
abbrev b_W_datagram : ByteArray := prog_1_method_19_code
def y_W_datagram : MethodName := ⟨R_W, "datagram", "(II)I"⟩
abbrev b_W_packet : ByteArray := prog_1_method_20_code
def y_W_packet : MethodName := ⟨R_W, "packet", "(II)J"⟩
abbrev b_W_lead : ByteArray := prog_1_method_21_code
def y_W_lead : MethodName := ⟨R_W, "lead", "(IIIII)I"⟩
abbrev b_W_cut : ByteArray := prog_1_method_22_code
def y_W_cut : MethodName := ⟨R_W, "cut", "(JJ)I"⟩
abbrev b_W_grow : ByteArray := prog_1_method_23_code
def y_W_grow : MethodName := ⟨R_W, "grow", "(JJI)J"⟩
abbrev b_W_parameters : ByteArray := prog_1_method_24_code
def y_W_parameters : MethodName := ⟨R_W, "parameters", "(IZ)I"⟩
abbrev b_W_parameter : ByteArray := prog_1_method_25_code
def y_W_parameter : MethodName := ⟨R_W, "parameter", "(I)J"⟩
abbrev b_W_keepWritten : ByteArray := prog_1_method_26_code
def y_W_keepWritten : MethodName := ⟨R_W, "keepWritten", "()I"⟩
abbrev b_W_requireByte : ByteArray := prog_1_method_27_code
def y_W_requireByte : MethodName := ⟨R_W, "requireByte", "(I)V"⟩
abbrev b_W_requirePlace : ByteArray := prog_1_method_28_code
def y_W_requirePlace : MethodName := ⟨R_W, "requirePlace", "(I)V"⟩
abbrev b_W_requireNames : ByteArray := prog_1_method_29_code
def y_W_requireNames : MethodName := ⟨R_W, "requireNames", "(I)V"⟩
abbrev b_W_startAtFrame : ByteArray := prog_1_method_30_code
def y_W_startAtFrame : MethodName := ⟨R_W, "startAtFrame", "(I)V"⟩
abbrev b_W_isNumber : ByteArray := prog_1_method_31_code
def y_W_isNumber : MethodName := ⟨R_W, "isNumber", "(J)Z"⟩
abbrev b_W_isNumberOrNone : ByteArray := prog_1_method_32_code
def y_W_isNumberOrNone : MethodName := ⟨R_W, "isNumberOrNone", "(J)Z"⟩
abbrev b_W_isNumberSize : ByteArray := prog_1_method_33_code
def y_W_isNumberSize : MethodName := ⟨R_W, "isNumberSize", "(I)Z"⟩
abbrev b_W_fewestBytes : ByteArray := prog_1_method_34_code
def y_W_fewestBytes : MethodName := ⟨R_W, "fewestBytes", "(J)I"⟩
abbrev b_W_fieldsHold : ByteArray := prog_1_method_35_code
def y_W_fieldsHold : MethodName := ⟨R_W, "fieldsHold", "(IJJJ)Z"⟩
abbrev b_M_init : ByteArray := prog_10_method_1_code
def y_M_init : MethodName := ⟨R_M, "<init>", "()V"⟩
abbrev b_M_thrown : ByteArray := prog_10_method_2_code
def y_M_thrown : MethodName := ⟨R_M, "thrown", "()I"⟩
abbrev b_M_fails : ByteArray := prog_10_method_3_code
def y_M_fails : MethodName := ⟨R_M, "fails", "(ZI)Z"⟩
abbrev b_M_within : ByteArray := prog_10_method_4_code
def y_M_within : MethodName := ⟨R_M, "within", "(JJJ)Z"⟩
abbrev b_M_isNumber : ByteArray := prog_10_method_5_code
def y_M_isNumber : MethodName := ⟨R_M, "isNumber", "(J)Z"⟩
abbrev b_M_byteAt : ByteArray := prog_10_method_6_code
def y_M_byteAt : MethodName := ⟨R_M, "byteAt", "(I)I"⟩
abbrev b_M_write : ByteArray := prog_10_method_7_code
def y_M_write : MethodName := ⟨R_M, "write", "(JI)V"⟩
abbrev b_M_feed : ByteArray := prog_10_method_8_code
def y_M_feed : MethodName := ⟨R_M, "feed", "(JI)I"⟩
abbrev b_M_needs : ByteArray := prog_10_method_9_code
def y_M_needs : MethodName := ⟨R_M, "needs", "(J)I"⟩
abbrev b_M_writeNumber : ByteArray := prog_10_method_10_code
def y_M_writeNumber : MethodName := ⟨R_M, "writeNumber", "(JI)V"⟩
abbrev b_M_number : ByteArray := prog_10_method_11_code
def y_M_number : MethodName := ⟨R_M, "number", "(JI)I"⟩
abbrev b_M_begin : ByteArray := prog_10_method_12_code
def y_M_begin : MethodName := ⟨R_M, "begin", "()V"⟩
abbrev b_M_forget : ByteArray := prog_10_method_13_code
def y_M_forget : MethodName := ⟨R_M, "forget", "()V"⟩
abbrev b_M_clear : ByteArray := prog_10_method_14_code
def y_M_clear : MethodName := ⟨R_M, "clear", "()I"⟩
abbrev b_M_size : ByteArray := prog_10_method_15_code
def y_M_size : MethodName := ⟨R_M, "size", "()I"⟩
abbrev b_M_at : ByteArray := prog_10_method_16_code
def y_M_at : MethodName := ⟨R_M, "at", "(I)I"⟩
abbrev b_M_look : ByteArray := prog_10_method_17_code
def y_M_look : MethodName := ⟨R_M, "look", "(II)V"⟩
abbrev b_M_take : ByteArray := prog_10_method_18_code
def y_M_take : MethodName := ⟨R_M, "take", "(I)J"⟩
abbrev b_M_takeNumber : ByteArray := prog_10_method_19_code
def y_M_takeNumber : MethodName := ⟨R_M, "takeNumber", "()J"⟩
abbrev b_M_pass : ByteArray := prog_10_method_20_code
def y_M_pass : MethodName := ⟨R_M, "pass", "(J)I"⟩
abbrev b_M_read : ByteArray := prog_10_method_21_code
def y_M_read : MethodName := ⟨R_M, "read", "(I)J"⟩
abbrev b_M_isAck : ByteArray := prog_10_method_22_code
def y_M_isAck : MethodName := ⟨R_M, "isAck", "(I)Z"⟩
abbrev b_M_fields : ByteArray := prog_10_method_23_code
def y_M_fields : MethodName := ⟨R_M, "fields", "(I)I"⟩
abbrev b_M_takeFields : ByteArray := prog_10_method_24_code
def y_M_takeFields : MethodName := ⟨R_M, "takeFields", "(I)V"⟩
abbrev b_M_takeData : ByteArray := prog_10_method_25_code
def y_M_takeData : MethodName := ⟨R_M, "takeData", "(J)V"⟩
abbrev b_M_takeStream : ByteArray := prog_10_method_26_code
def y_M_takeStream : MethodName := ⟨R_M, "takeStream", "(I)V"⟩
abbrev b_M_takeAck : ByteArray := prog_10_method_27_code
def y_M_takeAck : MethodName := ⟨R_M, "takeAck", "(I)V"⟩
abbrev b_M_takeName : ByteArray := prog_10_method_28_code
def y_M_takeName : MethodName := ⟨R_M, "takeName", "()V"⟩
abbrev b_M_takePadding : ByteArray := prog_10_method_29_code
def y_M_takePadding : MethodName := ⟨R_M, "takePadding", "()V"⟩
abbrev b_M_kindAt : ByteArray := prog_10_method_30_code
def y_M_kindAt : MethodName := ⟨R_M, "kindAt", "(I)I"⟩
abbrev b_M_parse : ByteArray := prog_10_method_31_code
def y_M_parse : MethodName := ⟨R_M, "parse", "(II)V"⟩
abbrev b_M_edge : ByteArray := prog_10_method_32_code
def y_M_edge : MethodName := ⟨R_M, "edge", "(IZ)J"⟩
abbrev b_M_isRight : ByteArray := prog_10_method_33_code
def y_M_isRight : MethodName := ⟨R_M, "isRight", "(I)Z"⟩
abbrev b_M_flaw : ByteArray := prog_10_method_34_code
def y_M_flaw : MethodName := ⟨R_M, "flaw", "(II)I"⟩
abbrev b_M_tell : ByteArray := prog_10_method_35_code
def y_M_tell : MethodName := ⟨R_M, "tell", "(II)V"⟩
abbrev b_M_frames : ByteArray := prog_10_method_36_code
def y_M_frames : MethodName := ⟨R_M, "frames", "(II)I"⟩
abbrev b_M_fault : ByteArray := prog_10_method_37_code
def y_M_fault : MethodName := ⟨R_M, "fault", "(Z)I"⟩
abbrev b_M_parsed : ByteArray := prog_10_method_38_code
def y_M_parsed : MethodName := ⟨R_M, "parsed", "(I)Z"⟩
abbrev b_M_frame : ByteArray := prog_10_method_39_code
def y_M_frame : MethodName := ⟨R_M, "frame", "(II)J"⟩
abbrev b_M_data : ByteArray := prog_10_method_40_code
def y_M_data : MethodName := ⟨R_M, "data", "(IIZ)I"⟩
abbrev b_M_range : ByteArray := prog_10_method_41_code
def y_M_range : MethodName := ⟨R_M, "range", "(IIZ)J"⟩
abbrev b_M_draft : ByteArray := prog_10_method_42_code
def y_M_draft : MethodName := ⟨R_M, "draft", "()V"⟩
abbrev b_M_set : ByteArray := prog_10_method_43_code
def y_M_set : MethodName := ⟨R_M, "set", "(IJ)V"⟩
abbrev b_M_add : ByteArray := prog_10_method_44_code
def y_M_add : MethodName := ⟨R_M, "add", "(JI)I"⟩
abbrev b_M_span : ByteArray := prog_10_method_45_code
def y_M_span : MethodName := ⟨R_M, "span", "(JJ)V"⟩
abbrev b_M_suits : ByteArray := prog_10_method_46_code
def y_M_suits : MethodName := ⟨R_M, "suits", "(I)Z"⟩
abbrev b_M_writeGiven : ByteArray := prog_10_method_47_code
def y_M_writeGiven : MethodName := ⟨R_M, "writeGiven", "(I)V"⟩
abbrev b_M_sizeOf : ByteArray := prog_10_method_48_code
def y_M_sizeOf : MethodName := ⟨R_M, "sizeOf", "(I)I"⟩
abbrev b_M_writeAck : ByteArray := prog_10_method_49_code
def y_M_writeAck : MethodName := ⟨R_M, "writeAck", "(I)V"⟩
abbrev b_M_writeStream : ByteArray := prog_10_method_50_code
def y_M_writeStream : MethodName := ⟨R_M, "writeStream", "()V"⟩
abbrev b_M_writeFields : ByteArray := prog_10_method_51_code
def y_M_writeFields : MethodName := ⟨R_M, "writeFields", "(I)V"⟩
abbrev b_M_put : ByteArray := prog_10_method_52_code
def y_M_put : MethodName := ⟨R_M, "put", "(I)I"⟩
abbrev b_M_note : ByteArray := prog_10_method_53_code
def y_M_note : MethodName := ⟨R_M, "note", "(II)V"⟩
abbrev b_M_takeConnection : ByteArray := prog_10_method_54_code
def y_M_takeConnection : MethodName := ⟨R_M, "takeConnection", "(I)I"⟩
abbrev b_M_headerFlaw : ByteArray := prog_10_method_55_code
def y_M_headerFlaw : MethodName := ⟨R_M, "headerFlaw", "(II)I"⟩
abbrev b_M_shortFlaw : ByteArray := prog_10_method_56_code
def y_M_shortFlaw : MethodName := ⟨R_M, "shortFlaw", "(II)I"⟩
abbrev b_M_longFlaw : ByteArray := prog_10_method_57_code
def y_M_longFlaw : MethodName := ⟨R_M, "longFlaw", "(I)I"⟩
abbrev b_M_head : ByteArray := prog_10_method_58_code
def y_M_head : MethodName := ⟨R_M, "head", "(II)I"⟩
abbrev b_M_isSame : ByteArray := prog_10_method_59_code
def y_M_isSame : MethodName := ⟨R_M, "isSame", "()Z"⟩
abbrev b_M_datagram : ByteArray := prog_10_method_60_code
def y_M_datagram : MethodName := ⟨R_M, "datagram", "(II)I"⟩
abbrev b_M_packet : ByteArray := prog_10_method_61_code
def y_M_packet : MethodName := ⟨R_M, "packet", "(II)J"⟩
abbrev b_M_lead : ByteArray := prog_10_method_62_code
def y_M_lead : MethodName := ⟨R_M, "lead", "(IIIII)I"⟩
abbrev b_M_cut : ByteArray := prog_10_method_63_code
def y_M_cut : MethodName := ⟨R_M, "cut", "(JJ)I"⟩
abbrev b_M_grow : ByteArray := prog_10_method_64_code
def y_M_grow : MethodName := ⟨R_M, "grow", "(JJI)J"⟩
abbrev b_M_hasBytes : ByteArray := prog_10_method_65_code
def y_M_hasBytes : MethodName := ⟨R_M, "hasBytes", "(I)Z"⟩
abbrev b_M_forgetParameters : ByteArray := prog_10_method_66_code
def y_M_forgetParameters : MethodName := ⟨R_M, "forgetParameters", "()V"⟩
abbrev b_M_suitsId : ByteArray := prog_10_method_67_code
def y_M_suitsId : MethodName := ⟨R_M, "suitsId", "(III)Z"⟩
abbrev b_M_parameterFlaw : ByteArray := prog_10_method_68_code
def y_M_parameterFlaw : MethodName := ⟨R_M, "parameterFlaw", "(ZI)I"⟩
abbrev b_M_parameters : ByteArray := prog_10_method_69_code
def y_M_parameters : MethodName := ⟨R_M, "parameters", "(IZ)I"⟩
abbrev b_M_parameter : ByteArray := prog_10_method_70_code
def y_M_parameter : MethodName := ⟨R_M, "parameter", "(I)J"⟩
abbrev b_D_init : ByteArray := prog_2_method_1_code
def y_D_init : MethodName := ⟨R_D, "<init>", "()V"⟩
abbrev b_D_empty : ByteArray := prog_2_method_2_code
def y_D_empty : MethodName := ⟨R_D, "empty", "()V"⟩
abbrev b_D_append : ByteArray := prog_2_method_3_code
def y_D_append : MethodName := ⟨R_D, "append", "(JI)V"⟩
abbrev b_D_isBelowRanges : ByteArray := prog_2_method_4_code
def y_D_isBelowRanges : MethodName := ⟨R_D, "isBelowRanges", "(J)Z"⟩
abbrev b_D_appendRange : ByteArray := prog_2_method_5_code
def y_D_appendRange : MethodName := ⟨R_D, "appendRange", "(JJ)V"⟩
abbrev b_D_isFrame : ByteArray := prog_2_method_6_code
def y_D_isFrame : MethodName := ⟨R_D, "isFrame", "(I)Z"⟩
abbrev b_D_isHeader : ByteArray := prog_2_method_7_code
def y_D_isHeader : MethodName := ⟨R_D, "isHeader", "(IIIII)Z"⟩
abbrev b_D_writeFrame : ByteArray := prog_2_method_8_code
def y_D_writeFrame : MethodName := ⟨R_D, "writeFrame", "(LWireCodec$Tape;I)V"⟩
abbrev b_D_writeHeader : ByteArray := prog_2_method_9_code
def y_D_writeHeader : MethodName := ⟨R_D, "writeHeader", "(LWireCodec$Tape;IIIII)V"⟩
abbrev b_D_isBit : ByteArray := prog_2_method_10_code
def y_D_isBit : MethodName := ⟨R_D, "isBit", "(J)Z"⟩
abbrev b_D_shapeOf : ByteArray := prog_2_method_11_code
def y_D_shapeOf : MethodName := ⟨R_D, "shapeOf", "(I)I"⟩
abbrev b_D_firstByte : ByteArray := prog_2_method_12_code
def y_D_firstByte : MethodName := ⟨R_D, "firstByte", "(I)I"⟩
abbrev b_D_isAck : ByteArray := prog_2_method_13_code
def y_D_isAck : MethodName := ⟨R_D, "isAck", "()Z"⟩
abbrev b_D_hasCounts : ByteArray := prog_2_method_14_code
def y_D_hasCounts : MethodName := ⟨R_D, "hasCounts", "()Z"⟩
abbrev b_D_hasShape : ByteArray := prog_2_method_15_code
def y_D_hasShape : MethodName := ⟨R_D, "hasShape", "(I)Z"⟩
abbrev b_D_writeShape : ByteArray := prog_2_method_16_code
def y_D_writeShape : MethodName := ⟨R_D, "writeShape", "(LWireCodec$Tape;I)V"⟩
abbrev b_D_writeAck : ByteArray := prog_2_method_17_code
def y_D_writeAck : MethodName := ⟨R_D, "writeAck", "(LWireCodec$Tape;I)V"⟩
abbrev b_F_init : ByteArray := prog_3_method_1_code
def y_F_init : MethodName := ⟨R_F, "<init>", "()V"⟩
abbrev b_F_parse : ByteArray := prog_3_method_2_code
def y_F_parse : MethodName := ⟨R_F, "parse", "(LWireCodec$Reader;I)I"⟩
abbrev b_F_walkRanges : ByteArray := prog_3_method_3_code
def y_F_walkRanges : MethodName := ⟨R_F, "walkRanges", "(LWireCodec$Reader;I)V"⟩
abbrev b_F_forget : ByteArray := prog_3_method_4_code
def y_F_forget : MethodName := ⟨R_F, "forget", "()V"⟩
abbrev b_F_takeShape : ByteArray := prog_3_method_5_code
def y_F_takeShape : MethodName := ⟨R_F, "takeShape", "(LWireCodec$Reader;I)V"⟩
abbrev b_F_takeRest : ByteArray := prog_3_method_6_code
def y_F_takeRest : MethodName := ⟨R_F, "takeRest", "(LWireCodec$Reader;II)V"⟩
abbrev b_F_takeData : ByteArray := prog_3_method_7_code
def y_F_takeData : MethodName := ⟨R_F, "takeData", "(LWireCodec$Reader;J)V"⟩
abbrev b_F_takeStream : ByteArray := prog_3_method_8_code
def y_F_takeStream : MethodName := ⟨R_F, "takeStream", "(LWireCodec$Reader;I)V"⟩
abbrev b_F_takeRangeCount : ByteArray := prog_3_method_9_code
def y_F_takeRangeCount : MethodName := ⟨R_F, "takeRangeCount", "(LWireCodec$Reader;)V"⟩
abbrev b_F_takeCounts : ByteArray := prog_3_method_10_code
def y_F_takeCounts : MethodName := ⟨R_F, "takeCounts", "(LWireCodec$Reader;I)V"⟩
abbrev b_H_init : ByteArray := prog_4_method_1_code
def y_H_init : MethodName := ⟨R_H, "<init>", "()V"⟩
abbrev b_H_parse : ByteArray := prog_4_method_2_code
def y_H_parse : MethodName := ⟨R_H, "parse", "(LWireCodec$Reader;I)I"⟩
abbrev b_H_goesTo : ByteArray := prog_4_method_3_code
def y_H_goesTo : MethodName := ⟨R_H, "goesTo", "(LWireCodec$Tape;II)Z"⟩
abbrev b_H_parseShort : ByteArray := prog_4_method_4_code
def y_H_parseShort : MethodName := ⟨R_H, "parseShort", "(LWireCodec$Reader;II)I"⟩
abbrev b_H_parseLong : ByteArray := prog_4_method_5_code
def y_H_parseLong : MethodName := ⟨R_H, "parseLong", "(LWireCodec$Reader;I)I"⟩
abbrev b_H_sizeOfName : ByteArray := prog_4_method_6_code
def y_H_sizeOfName : MethodName := ⟨R_H, "sizeOfName", "(LWireCodec$Reader;I)I"⟩
abbrev b_H_parseTokenAndLength : ByteArray := prog_4_method_7_code
def y_H_parseTokenAndLength : MethodName := ⟨R_H, "parseTokenAndLength", "(LWireCodec$Reader;)I"⟩
abbrev b_P_init : ByteArray := prog_5_method_1_code
def y_P_init : MethodName := ⟨R_P, "<init>", "()V"⟩
abbrev b_P_forget : ByteArray := prog_5_method_2_code
def y_P_forget : MethodName := ⟨R_P, "forget", "()V"⟩
abbrev b_P_parseNext : ByteArray := prog_5_method_3_code
def y_P_parseNext : MethodName := ⟨R_P, "parseNext", "(LWireCodec$Reader;Z)I"⟩
abbrev b_R_init : ByteArray := prog_6_method_1_code
def y_R_init : MethodName := ⟨R_R, "<init>", "(LWireCodec$Tape;)V"⟩
abbrev b_R_start : ByteArray := prog_6_method_2_code
def y_R_start : MethodName := ⟨R_R, "start", "(II)V"⟩
abbrev b_R_left : ByteArray := prog_6_method_3_code
def y_R_left : MethodName := ⟨R_R, "left", "()I"⟩
abbrev b_R_takeBytes : ByteArray := prog_6_method_4_code
def y_R_takeBytes : MethodName := ⟨R_R, "takeBytes", "(J)I"⟩
abbrev b_R_takeWord : ByteArray := prog_6_method_5_code
def y_R_takeWord : MethodName := ⟨R_R, "takeWord", "(I)J"⟩
abbrev b_R_takeNumber : ByteArray := prog_6_method_6_code
def y_R_takeNumber : MethodName := ⟨R_R, "takeNumber", "()J"⟩
abbrev b_R_numberOfAll : ByteArray := prog_6_method_7_code
def y_R_numberOfAll : MethodName := ⟨R_R, "numberOfAll", "(IJ)J"⟩
abbrev b_R_takeZeros : ByteArray := prog_6_method_8_code
def y_R_takeZeros : MethodName := ⟨R_R, "takeZeros", "()I"⟩
abbrev b_G_init : ByteArray := prog_7_method_1_code
def y_G_init : MethodName := ⟨R_G, "<init>", "()V"⟩
abbrev b_G_restart : ByteArray := prog_7_method_2_code
def y_G_restart : MethodName := ⟨R_G, "restart", "(II)V"⟩
abbrev b_G_fail : ByteArray := prog_7_method_3_code
def y_G_fail : MethodName := ⟨R_G, "fail", "(II)V"⟩
abbrev b_G_keepFrame : ByteArray := prog_7_method_4_code
def y_G_keepFrame : MethodName := ⟨R_G, "keepFrame", "(I)V"⟩
abbrev b_G_keepPacket : ByteArray := prog_7_method_5_code
def y_G_keepPacket : MethodName := ⟨R_G, "keepPacket", "(I)V"⟩
abbrev b_G_placeOf : ByteArray := prog_7_method_6_code
def y_G_placeOf : MethodName := ⟨R_G, "placeOf", "(I)I"⟩
abbrev b_G_keepPlace : ByteArray := prog_7_method_7_code
def y_G_keepPlace : MethodName := ⟨R_G, "keepPlace", "(II)V"⟩
abbrev b_T_init : ByteArray := prog_8_method_1_code
def y_T_init : MethodName := ⟨R_T, "<init>", "()V"⟩
abbrev b_T_byteAt : ByteArray := prog_8_method_2_code
def y_T_byteAt : MethodName := ⟨R_T, "byteAt", "(I)I"⟩
abbrev b_T_numberBytesAt : ByteArray := prog_8_method_3_code
def y_T_numberBytesAt : MethodName := ⟨R_T, "numberBytesAt", "(I)I"⟩
abbrev b_T_numberAt : ByteArray := prog_8_method_4_code
def y_T_numberAt : MethodName := ⟨R_T, "numberAt", "(II)J"⟩
abbrev b_T_wordAt : ByteArray := prog_8_method_5_code
def y_T_wordAt : MethodName := ⟨R_T, "wordAt", "(II)J"⟩
abbrev b_T_startWriting : ByteArray := prog_8_method_6_code
def y_T_startWriting : MethodName := ⟨R_T, "startWriting", "()V"⟩
abbrev b_T_endWriting : ByteArray := prog_8_method_7_code
def y_T_endWriting : MethodName := ⟨R_T, "endWriting", "()Z"⟩
abbrev b_T_writeByte : ByteArray := prog_8_method_8_code
def y_T_writeByte : MethodName := ⟨R_T, "writeByte", "(I)V"⟩
abbrev b_T_writeWord : ByteArray := prog_8_method_9_code
def y_T_writeWord : MethodName := ⟨R_T, "writeWord", "(JI)V"⟩
abbrev b_T_writeNumber : ByteArray := prog_8_method_10_code
def y_T_writeNumber : MethodName := ⟨R_T, "writeNumber", "(JI)V"⟩
abbrev b_T_writeBytes : ByteArray := prog_8_method_11_code
def y_T_writeBytes : MethodName := ⟨R_T, "writeBytes", "([BII)V"⟩
abbrev b_L_feed : ByteArray := method_3_code
def y_L_feed : MethodName := ⟨R_L, "feed", "(LWireCodec;JI[J)I"⟩
abbrev b_L_number : ByteArray := method_4_code
def y_L_number : MethodName := ⟨R_L, "number", "(LWireCodec;JI[J)I"⟩
abbrev b_L_at : ByteArray := method_5_code
def y_L_at : MethodName := ⟨R_L, "at", "(LWireCodec;I[J)I"⟩
abbrev b_L_read : ByteArray := method_6_code
def y_L_read : MethodName := ⟨R_L, "read", "(LWireCodec;I[J)I"⟩
abbrev b_L_frames : ByteArray := method_7_code
def y_L_frames : MethodName := ⟨R_L, "frames", "(LWireCodec;II[J)I"⟩
abbrev b_L_frame : ByteArray := method_8_code
def y_L_frame : MethodName := ⟨R_L, "frame", "(LWireCodec;II[J)I"⟩
abbrev b_L_data : ByteArray := method_9_code
def y_L_data : MethodName := ⟨R_L, "data", "(LWireCodec;IIZ[J)I"⟩
abbrev b_L_range : ByteArray := method_10_code
def y_L_range : MethodName := ⟨R_L, "range", "(LWireCodec;IIZ[J)I"⟩
abbrev b_L_set : ByteArray := method_11_code
def y_L_set : MethodName := ⟨R_L, "set", "(LWireCodec;IJ)I"⟩
abbrev b_L_add : ByteArray := method_12_code
def y_L_add : MethodName := ⟨R_L, "add", "(LWireCodec;JI[J)I"⟩
abbrev b_L_span : ByteArray := method_13_code
def y_L_span : MethodName := ⟨R_L, "span", "(LWireCodec;JJ)I"⟩
abbrev b_L_put : ByteArray := method_14_code
def y_L_put : MethodName := ⟨R_L, "put", "(LWireCodec;I[J)I"⟩
abbrev b_L_head : ByteArray := method_15_code
def y_L_head : MethodName := ⟨R_L, "head", "(LWireCodec;II[J)I"⟩
abbrev b_L_datagram : ByteArray := method_16_code
def y_L_datagram : MethodName := ⟨R_L, "datagram", "(LWireCodec;II[J)I"⟩
abbrev b_L_packet : ByteArray := method_17_code
def y_L_packet : MethodName := ⟨R_L, "packet", "(LWireCodec;II[J)I"⟩
abbrev b_L_lead : ByteArray := method_18_code
def y_L_lead : MethodName := ⟨R_L, "lead", "(LWireCodec;IIIII[J)I"⟩
abbrev b_L_cut : ByteArray := method_19_code
def y_L_cut : MethodName := ⟨R_L, "cut", "(LWireCodec;JJ[J)I"⟩
abbrev b_L_grow : ByteArray := method_20_code
def y_L_grow : MethodName := ⟨R_L, "grow", "(LWireCodec;JJI[J)I"⟩
abbrev b_L_parameters : ByteArray := method_21_code
def y_L_parameters : MethodName := ⟨R_L, "parameters", "(LWireCodec;IZ[J)I"⟩
abbrev b_L_parameter : ByteArray := method_22_code
def y_L_parameter : MethodName := ⟨R_L, "parameter", "(LWireCodec;I[J)I"⟩
abbrev b_In_bitCount : ByteArray := prog_15_method_49_code
def y_In_bitCount : MethodName := ⟨R_In, "bitCount", "(I)I"⟩
abbrev b_Ma_abs : ByteArray := prog_16_method_61_code
def y_Ma_abs : MethodName := ⟨R_Ma, "abs", "(J)J"⟩
abbrev b_Ma_min : ByteArray := prog_16_method_69_code
def y_Ma_min : MethodName := ⟨R_Ma, "min", "(II)I"⟩
abbrev b_Ar_copyOf_aBI : ByteArray := prog_21_method_121_code
def y_Ar_copyOf_aBI : MethodName := ⟨R_Ar, "copyOf", "([BI)[B"⟩
abbrev b_Ar_copyOf_aII : ByteArray := prog_21_method_123_code
def y_Ar_copyOf_aII : MethodName := ⟨R_Ar, "copyOf", "([II)[I"⟩
abbrev b_Ar_copyOf_aJI : ByteArray := prog_21_method_124_code
def y_Ar_copyOf_aJI : MethodName := ⟨R_Ar, "copyOf", "([JI)[J"⟩
abbrev b_Ar_fill_aII : ByteArray := prog_21_method_103_code
def y_Ar_fill_aII : MethodName := ⟨R_Ar, "fill", "([II)V"⟩
abbrev b_Ar_fill_aJJ : ByteArray := prog_21_method_101_code
def y_Ar_fill_aJJ : MethodName := ⟨R_Ar, "fill", "([JJ)V"⟩
abbrev zcl : List vw_C := [(R_W, F_W, 7), (R_T, F_T, 3), (R_R, F_R, 4), (R_G, F_G, 7), (R_F, F_F, 7), (R_H, F_H, 1), (R_D, F_D, 6), (R_P, F_P, 2), (R_M, F_M, 26)]
def zSt : List (String × Nat × String) := [("WireCodec", 62, "n is not 1 .. 8"), ("WireCodec", 307, "the tape has no room"), ("WireCodec", 90, "no number of so many bytes"), ("WireCodec", 309, "the tape has no such byte"), ("WireCodec", 311, "from is not 0 .. size"), ("WireCodec", 130, "level is not 0 .. 2"), ("WireCodec", 315, "no such frame"), ("WireCodec", 166, "a frame has no such part"), ("WireCodec", 176, "the frame has no such byte"), ("WireCodec", 184, "the frame has no such range"), ("WireCodec", 203, "a draft has no such field"), ("WireCodec", 209, "the draft's data is full"), ("WireCodec", 218, "no range below the last one"), ("WireCodec", 223, "the draft has all its ranges"), ("WireCodec", 232, "the draft is no such frame"), ("WireCodec", 313, "names is not 0 .. 20"), ("WireCodec", 255, "no such packet, or no such part of it"), ("WireCodec", 267, "the draft is no such header"), ("WireCodec", 276, "no packet's number above the acknowledged one"), ("WireCodec", 278, "no cut packet's number"), ("WireCodec", 298, "id is not 0 .. 16")]
def ztb : List Cond := lw_tbl.filter goodWord
theorem zmem {w : Cond} (i : Nat) (h : lw_tbl[i]? = some w) (hg : goodWord w = true) : w ∈ ztb := List.mem_filter.mpr ⟨List.mem_of_getElem? h, hg⟩
theorem ztbl_ok (w : Cond) (h : w ∈ ztb) : (w.onTables && w.keeps) = true ∨ ∃ ty, w = .arrayClass ty := good_of_word (List.mem_filter.mp h).2
theorem zi_W : ∀ w ∈ u_ws R_W F_W 7, w ∈ ztb := by
  intro w hw
  obtain ⟨k, hk, rfl⟩ := List.mem_map.mp hw
  have hk := List.mem_range.mp hk
  rcases (show k = 0 ∨ k = 1 ∨ k = 2 ∨ k = 3 ∨ k = 4 ∨ k = 5 ∨ k = 6 by omega) with rfl | rfl | rfl | rfl | rfl | rfl | rfl
  · exact zmem 284 (by decide +kernel) (by decide +kernel)
  · exact zmem 286 (by decide +kernel) (by decide +kernel)
  · exact zmem 288 (by decide +kernel) (by decide +kernel)
  · exact zmem 290 (by decide +kernel) (by decide +kernel)
  · exact zmem 292 (by decide +kernel) (by decide +kernel)
  · exact zmem 294 (by decide +kernel) (by decide +kernel)
  · exact zmem 296 (by decide +kernel) (by decide +kernel)
theorem zi_T : ∀ w ∈ u_ws R_T F_T 3, w ∈ ztb := by
  intro w hw
  obtain ⟨k, hk, rfl⟩ := List.mem_map.mp hw
  have hk := List.mem_range.mp hk
  rcases (show k = 0 ∨ k = 1 ∨ k = 2 by omega) with rfl | rfl | rfl
  · exact zmem 99 (by decide +kernel) (by decide +kernel)
  · exact zmem 101 (by decide +kernel) (by decide +kernel)
  · exact zmem 103 (by decide +kernel) (by decide +kernel)
theorem zi_R : ∀ w ∈ u_ws R_R F_R 4, w ∈ ztb := by
  intro w hw
  obtain ⟨k, hk, rfl⟩ := List.mem_map.mp hw
  have hk := List.mem_range.mp hk
  rcases (show k = 0 ∨ k = 1 ∨ k = 2 ∨ k = 3 by omega) with rfl | rfl | rfl | rfl
  · exact zmem 125 (by decide +kernel) (by decide +kernel)
  · exact zmem 127 (by decide +kernel) (by decide +kernel)
  · exact zmem 129 (by decide +kernel) (by decide +kernel)
  · exact zmem 131 (by decide +kernel) (by decide +kernel)
theorem zi_G : ∀ w ∈ u_ws R_G F_G 7, w ∈ ztb := by
  intro w hw
  obtain ⟨k, hk, rfl⟩ := List.mem_map.mp hw
  have hk := List.mem_range.mp hk
  rcases (show k = 0 ∨ k = 1 ∨ k = 2 ∨ k = 3 ∨ k = 4 ∨ k = 5 ∨ k = 6 by omega) with rfl | rfl | rfl | rfl | rfl | rfl | rfl
  · exact zmem 153 (by decide +kernel) (by decide +kernel)
  · exact zmem 155 (by decide +kernel) (by decide +kernel)
  · exact zmem 157 (by decide +kernel) (by decide +kernel)
  · exact zmem 159 (by decide +kernel) (by decide +kernel)
  · exact zmem 161 (by decide +kernel) (by decide +kernel)
  · exact zmem 163 (by decide +kernel) (by decide +kernel)
  · exact zmem 165 (by decide +kernel) (by decide +kernel)
theorem zi_F : ∀ w ∈ u_ws R_F F_F 7, w ∈ ztb := by
  intro w hw
  obtain ⟨k, hk, rfl⟩ := List.mem_map.mp hw
  have hk := List.mem_range.mp hk
  rcases (show k = 0 ∨ k = 1 ∨ k = 2 ∨ k = 3 ∨ k = 4 ∨ k = 5 ∨ k = 6 by omega) with rfl | rfl | rfl | rfl | rfl | rfl | rfl
  · exact zmem 189 (by decide +kernel) (by decide +kernel)
  · exact zmem 191 (by decide +kernel) (by decide +kernel)
  · exact zmem 193 (by decide +kernel) (by decide +kernel)
  · exact zmem 195 (by decide +kernel) (by decide +kernel)
  · exact zmem 197 (by decide +kernel) (by decide +kernel)
  · exact zmem 199 (by decide +kernel) (by decide +kernel)
  · exact zmem 201 (by decide +kernel) (by decide +kernel)
theorem zi_H : ∀ w ∈ u_ws R_H F_H 1, w ∈ ztb := by
  intro w hw
  obtain ⟨k, hk, rfl⟩ := List.mem_map.mp hw
  have hk := List.mem_range.mp hk
  rcases (show k = 0 by omega) with rfl
  · exact zmem 213 (by decide +kernel) (by decide +kernel)
theorem zi_D : ∀ w ∈ u_ws R_D F_D 6, w ∈ ztb := by
  intro w hw
  obtain ⟨k, hk, rfl⟩ := List.mem_map.mp hw
  have hk := List.mem_range.mp hk
  rcases (show k = 0 ∨ k = 1 ∨ k = 2 ∨ k = 3 ∨ k = 4 ∨ k = 5 by omega) with rfl | rfl | rfl | rfl | rfl | rfl
  · exact zmem 231 (by decide +kernel) (by decide +kernel)
  · exact zmem 233 (by decide +kernel) (by decide +kernel)
  · exact zmem 235 (by decide +kernel) (by decide +kernel)
  · exact zmem 237 (by decide +kernel) (by decide +kernel)
  · exact zmem 239 (by decide +kernel) (by decide +kernel)
  · exact zmem 241 (by decide +kernel) (by decide +kernel)
theorem zi_P : ∀ w ∈ u_ws R_P F_P 2, w ∈ ztb := by
  intro w hw
  obtain ⟨k, hk, rfl⟩ := List.mem_map.mp hw
  have hk := List.mem_range.mp hk
  rcases (show k = 0 ∨ k = 1 by omega) with rfl | rfl
  · exact zmem 272 (by decide +kernel) (by decide +kernel)
  · exact zmem 274 (by decide +kernel) (by decide +kernel)
theorem zi_M : ∀ w ∈ u_ws R_M F_M 26, w ∈ ztb := by
  intro w hw
  obtain ⟨k, hk, rfl⟩ := List.mem_map.mp hw
  have hk := List.mem_range.mp hk
  rcases (show k = 0 ∨ k = 1 ∨ k = 2 ∨ k = 3 ∨ k = 4 ∨ k = 5 ∨ k = 6 ∨ k = 7 ∨ k = 8 ∨ k = 9 ∨ k = 10 ∨ k = 11 ∨ k = 12 ∨ k = 13 ∨ k = 14 ∨ k = 15 ∨ k = 16 ∨ k = 17 ∨ k = 18 ∨ k = 19 ∨ k = 20 ∨ k = 21 ∨ k = 22 ∨ k = 23 ∨ k = 24 ∨ k = 25 by omega) with rfl | rfl | rfl | rfl | rfl | rfl | rfl | rfl | rfl | rfl | rfl | rfl | rfl | rfl | rfl | rfl | rfl | rfl | rfl | rfl | rfl | rfl | rfl | rfl | rfl | rfl
  · exact zmem 968 (by decide +kernel) (by decide +kernel)
  · exact zmem 970 (by decide +kernel) (by decide +kernel)
  · exact zmem 972 (by decide +kernel) (by decide +kernel)
  · exact zmem 974 (by decide +kernel) (by decide +kernel)
  · exact zmem 976 (by decide +kernel) (by decide +kernel)
  · exact zmem 978 (by decide +kernel) (by decide +kernel)
  · exact zmem 980 (by decide +kernel) (by decide +kernel)
  · exact zmem 982 (by decide +kernel) (by decide +kernel)
  · exact zmem 984 (by decide +kernel) (by decide +kernel)
  · exact zmem 986 (by decide +kernel) (by decide +kernel)
  · exact zmem 988 (by decide +kernel) (by decide +kernel)
  · exact zmem 990 (by decide +kernel) (by decide +kernel)
  · exact zmem 992 (by decide +kernel) (by decide +kernel)
  · exact zmem 994 (by decide +kernel) (by decide +kernel)
  · exact zmem 996 (by decide +kernel) (by decide +kernel)
  · exact zmem 998 (by decide +kernel) (by decide +kernel)
  · exact zmem 1000 (by decide +kernel) (by decide +kernel)
  · exact zmem 1002 (by decide +kernel) (by decide +kernel)
  · exact zmem 1004 (by decide +kernel) (by decide +kernel)
  · exact zmem 1006 (by decide +kernel) (by decide +kernel)
  · exact zmem 1008 (by decide +kernel) (by decide +kernel)
  · exact zmem 1010 (by decide +kernel) (by decide +kernel)
  · exact zmem 1012 (by decide +kernel) (by decide +kernel)
  · exact zmem 1014 (by decide +kernel) (by decide +kernel)
  · exact zmem 1016 (by decide +kernel) (by decide +kernel)
  · exact zmem 1018 (by decide +kernel) (by decide +kernel)
abbrev zwW (o o_tape o_reader o_reading o_loadedFrame o_loadedHeader o_drafted o_told : Nat) : va_W := [(o, .inr (0, [.ref o_tape, .ref o_reader, .ref o_reading, .ref o_loadedFrame, .ref o_loadedHeader, .ref o_drafted, .ref o_told]))]
abbrev zT : Type := (Nat → Int32) × Nat × Int32 × Int32
abbrev zT_bytes (x : zT) : (Nat → Int32) := x.1
abbrev zT_bytesN (x : zT) : Nat := x.2.1
abbrev zT_cursor (x : zT) : Int32 := x.2.2.1
abbrev zT_length (x : zT) : Int32 := x.2.2.2
abbrev zT_bytes' (x : zT) (v : (Nat → Int32)) : zT := (v, x.2.1, x.2.2.1, x.2.2.2)
abbrev zT_bytesN' (x : zT) (v : Nat) : zT := (x.1, v, x.2.2.1, x.2.2.2)
abbrev zT_cursor' (x : zT) (v : Int32) : zT := (x.1, x.2.1, v, x.2.2.2)
abbrev zT_length' (x : zT) (v : Int32) : zT := (x.1, x.2.1, x.2.2.1, v)
abbrev zwT (o o_bytes : Nat) (cB cI cL : ClassId) (x : zT) : va_W := [(o, .inr (1, [.ref o_bytes, .int (zT_cursor x), .int (zT_length x)])), (o_bytes, .inl (cB, zT_bytesN x, .inl (zT_bytes x)))]
abbrev zR : Type := Int32 × Int32 × Int32
abbrev zR_place (x : zR) : Int32 := x.1
abbrev zR_limit (x : zR) : Int32 := x.2.1
abbrev zR_over (x : zR) : Int32 := x.2.2
abbrev zR_place' (x : zR) (v : Int32) : zR := (v, x.2.1, x.2.2)
abbrev zR_limit' (x : zR) (v : Int32) : zR := (x.1, v, x.2.2)
abbrev zR_over' (x : zR) (v : Int32) : zR := (x.1, x.2.1, v)
abbrev zwR (o o_tape : Nat) (cB cI cL : ClassId) (x : zR) : va_W := [(o, .inr (2, [.ref o_tape, .int (zR_place x), .int (zR_limit x), .int (zR_over x)]))]
abbrev zG : Type := (Nat → Int32) × Nat × Int32 × Int32 × Int32 × Int32 × Int32 × Int32
abbrev zG_places (x : zG) : (Nat → Int32) := x.1
abbrev zG_placesN (x : zG) : Nat := x.2.1
abbrev zG_frameCount (x : zG) : Int32 := x.2.2.1
abbrev zG_packetCount (x : zG) : Int32 := x.2.2.2.1
abbrev zG_limit (x : zG) : Int32 := x.2.2.2.2.1
abbrev zG_names (x : zG) : Int32 := x.2.2.2.2.2.1
abbrev zG_wrong (x : zG) : Int32 := x.2.2.2.2.2.2.1
abbrev zG_wrongPlace (x : zG) : Int32 := x.2.2.2.2.2.2.2
abbrev zG_places' (x : zG) (v : (Nat → Int32)) : zG := (v, x.2.1, x.2.2.1, x.2.2.2.1, x.2.2.2.2.1, x.2.2.2.2.2.1, x.2.2.2.2.2.2.1, x.2.2.2.2.2.2.2)
abbrev zG_placesN' (x : zG) (v : Nat) : zG := (x.1, v, x.2.2.1, x.2.2.2.1, x.2.2.2.2.1, x.2.2.2.2.2.1, x.2.2.2.2.2.2.1, x.2.2.2.2.2.2.2)
abbrev zG_frameCount' (x : zG) (v : Int32) : zG := (x.1, x.2.1, v, x.2.2.2.1, x.2.2.2.2.1, x.2.2.2.2.2.1, x.2.2.2.2.2.2.1, x.2.2.2.2.2.2.2)
abbrev zG_packetCount' (x : zG) (v : Int32) : zG := (x.1, x.2.1, x.2.2.1, v, x.2.2.2.2.1, x.2.2.2.2.2.1, x.2.2.2.2.2.2.1, x.2.2.2.2.2.2.2)
abbrev zG_limit' (x : zG) (v : Int32) : zG := (x.1, x.2.1, x.2.2.1, x.2.2.2.1, v, x.2.2.2.2.2.1, x.2.2.2.2.2.2.1, x.2.2.2.2.2.2.2)
abbrev zG_names' (x : zG) (v : Int32) : zG := (x.1, x.2.1, x.2.2.1, x.2.2.2.1, x.2.2.2.2.1, v, x.2.2.2.2.2.2.1, x.2.2.2.2.2.2.2)
abbrev zG_wrong' (x : zG) (v : Int32) : zG := (x.1, x.2.1, x.2.2.1, x.2.2.2.1, x.2.2.2.2.1, x.2.2.2.2.2.1, v, x.2.2.2.2.2.2.2)
abbrev zG_wrongPlace' (x : zG) (v : Int32) : zG := (x.1, x.2.1, x.2.2.1, x.2.2.2.1, x.2.2.2.2.1, x.2.2.2.2.2.1, x.2.2.2.2.2.2.1, v)
abbrev zwG (o o_places : Nat) (cB cI cL : ClassId) (x : zG) : va_W := [(o, .inr (3, [.ref o_places, .int (zG_frameCount x), .int (zG_packetCount x), .int (zG_limit x), .int (zG_names x), .int (zG_wrong x), .int (zG_wrongPlace x)])), (o_places, .inl (cI, zG_placesN x, .inl (zG_places x)))]
abbrev zF : Type := (Nat → Int64) × Int32 × Int32 × Int32 × Int32 × Int64 × Int64
abbrev zF_parts (x : zF) : (Nat → Int64) := x.1
abbrev zF_dataPlace (x : zF) : Int32 := x.2.1
abbrev zF_secretPlace (x : zF) : Int32 := x.2.2.1
abbrev zF_secretBytes (x : zF) : Int32 := x.2.2.2.1
abbrev zF_rangesPlace (x : zF) : Int32 := x.2.2.2.2.1
abbrev zF_low (x : zF) : Int64 := x.2.2.2.2.2.1
abbrev zF_high (x : zF) : Int64 := x.2.2.2.2.2.2
abbrev zF_parts' (x : zF) (v : (Nat → Int64)) : zF := (v, x.2.1, x.2.2.1, x.2.2.2.1, x.2.2.2.2.1, x.2.2.2.2.2.1, x.2.2.2.2.2.2)
abbrev zF_dataPlace' (x : zF) (v : Int32) : zF := (x.1, v, x.2.2.1, x.2.2.2.1, x.2.2.2.2.1, x.2.2.2.2.2.1, x.2.2.2.2.2.2)
abbrev zF_secretPlace' (x : zF) (v : Int32) : zF := (x.1, x.2.1, v, x.2.2.2.1, x.2.2.2.2.1, x.2.2.2.2.2.1, x.2.2.2.2.2.2)
abbrev zF_secretBytes' (x : zF) (v : Int32) : zF := (x.1, x.2.1, x.2.2.1, v, x.2.2.2.2.1, x.2.2.2.2.2.1, x.2.2.2.2.2.2)
abbrev zF_rangesPlace' (x : zF) (v : Int32) : zF := (x.1, x.2.1, x.2.2.1, x.2.2.2.1, v, x.2.2.2.2.2.1, x.2.2.2.2.2.2)
abbrev zF_low' (x : zF) (v : Int64) : zF := (x.1, x.2.1, x.2.2.1, x.2.2.2.1, x.2.2.2.2.1, v, x.2.2.2.2.2.2)
abbrev zF_high' (x : zF) (v : Int64) : zF := (x.1, x.2.1, x.2.2.1, x.2.2.2.1, x.2.2.2.2.1, x.2.2.2.2.2.1, v)
abbrev zwF (o o_parts : Nat) (cB cI cL : ClassId) (x : zF) : va_W := [(o, .inr (4, [.ref o_parts, .int (zF_dataPlace x), .int (zF_secretPlace x), .int (zF_secretBytes x), .int (zF_rangesPlace x), .long (zF_low x), .long (zF_high x)])), (o_parts, .inl (cL, 12, .inr (.inl (zF_parts x))))]
abbrev zH : Type := (Nat → Int32)
abbrev zH_parts (x : zH) : (Nat → Int32) := x
abbrev zH_parts' (x : zH) (v : (Nat → Int32)) : zH := (v)
abbrev zwH (o o_parts : Nat) (cB cI cL : ClassId) (x : zH) : va_W := [(o, .inr (5, [.ref o_parts])), (o_parts, .inl (cI, 12, .inl (zH_parts x)))]
abbrev zD : Type := (Nat → Int64) × (Nat → Int32) × (Nat → Int64) × (Nat → Int64) × Int32 × Int32
abbrev zD_parts (x : zD) : (Nat → Int64) := x.1
abbrev zD_bytes (x : zD) : (Nat → Int32) := x.2.1
abbrev zD_lows (x : zD) : (Nat → Int64) := x.2.2.1
abbrev zD_highs (x : zD) : (Nat → Int64) := x.2.2.2.1
abbrev zD_length (x : zD) : Int32 := x.2.2.2.2.1
abbrev zD_ranges (x : zD) : Int32 := x.2.2.2.2.2
abbrev zD_parts' (x : zD) (v : (Nat → Int64)) : zD := (v, x.2.1, x.2.2.1, x.2.2.2.1, x.2.2.2.2.1, x.2.2.2.2.2)
abbrev zD_bytes' (x : zD) (v : (Nat → Int32)) : zD := (x.1, v, x.2.2.1, x.2.2.2.1, x.2.2.2.2.1, x.2.2.2.2.2)
abbrev zD_lows' (x : zD) (v : (Nat → Int64)) : zD := (x.1, x.2.1, v, x.2.2.2.1, x.2.2.2.2.1, x.2.2.2.2.2)
abbrev zD_highs' (x : zD) (v : (Nat → Int64)) : zD := (x.1, x.2.1, x.2.2.1, v, x.2.2.2.2.1, x.2.2.2.2.2)
abbrev zD_length' (x : zD) (v : Int32) : zD := (x.1, x.2.1, x.2.2.1, x.2.2.2.1, v, x.2.2.2.2.2)
abbrev zD_ranges' (x : zD) (v : Int32) : zD := (x.1, x.2.1, x.2.2.1, x.2.2.2.1, x.2.2.2.2.1, v)
abbrev zwD (o o_parts o_bytes o_lows o_highs : Nat) (cB cI cL : ClassId) (x : zD) : va_W := [(o, .inr (6, [.ref o_parts, .ref o_bytes, .ref o_lows, .ref o_highs, .int (zD_length x), .int (zD_ranges x)])), (o_parts, .inl (cL, 12, .inr (.inl (zD_parts x)))), (o_bytes, .inl (cB, 2000, .inl (zD_bytes x))), (o_lows, .inl (cL, 500, .inr (.inl (zD_lows x)))), (o_highs, .inl (cL, 500, .inr (.inl (zD_highs x))))]
abbrev zP : Type := (Nat → Int64) × Int32
abbrev zP_values (x : zP) : (Nat → Int64) := x.1
abbrev zP_seen (x : zP) : Int32 := x.2
abbrev zP_values' (x : zP) (v : (Nat → Int64)) : zP := (v, x.2)
abbrev zP_seen' (x : zP) (v : Int32) : zP := (x.1, v)
abbrev zwP (o o_values : Nat) (cB cI cL : ClassId) (x : zP) : va_W := [(o, .inr (7, [.ref o_values, .int (zP_seen x)])), (o_values, .inl (cL, 17, .inr (.inl (zP_values x))))]
abbrev zM : Type := Int32 × (Nat → Int32) × Int32 × Int32 × Int32 × Int32 × (Nat → Int32) × Int32 × (Nat → Int64) × Int32 × Int32 × Int32 × Int32 × Int32 × Int32 × Int32 × Int32 × (Nat → Int64) × (Nat → Int32) × Int32 × (Nat → Int64) × (Nat → Int64) × Int32 × Int32 × (Nat → Int32) × (Nat → Int64)
abbrev zM_thrown (x : zM) : Int32 := x.1
abbrev zM_tape (x : zM) : (Nat → Int32) := x.2.1
abbrev zM_size (x : zM) : Int32 := x.2.2.1
abbrev zM_fault (x : zM) : Int32 := x.2.2.2.1
abbrev zM_faultAt (x : zM) : Int32 := x.2.2.2.2.1
abbrev zM_frames (x : zM) : Int32 := x.2.2.2.2.2.1
abbrev zM_frameAt (x : zM) : (Nat → Int32) := x.2.2.2.2.2.2.1
abbrev zM_framesEnd (x : zM) : Int32 := x.2.2.2.2.2.2.2.1
abbrev zM_field (x : zM) : (Nat → Int64) := x.2.2.2.2.2.2.2.2.1
abbrev zM_dataAt (x : zM) : Int32 := x.2.2.2.2.2.2.2.2.2.1
abbrev zM_dataSize (x : zM) : Int32 := x.2.2.2.2.2.2.2.2.2.2.1
abbrev zM_secretAt (x : zM) : Int32 := x.2.2.2.2.2.2.2.2.2.2.2.1
abbrev zM_ranges (x : zM) : Int32 := x.2.2.2.2.2.2.2.2.2.2.2.2.1
abbrev zM_rangesAt (x : zM) : Int32 := x.2.2.2.2.2.2.2.2.2.2.2.2.2.1
abbrev zM_at (x : zM) : Int32 := x.2.2.2.2.2.2.2.2.2.2.2.2.2.2.1
abbrev zM_over (x : zM) : Int32 := x.2.2.2.2.2.2.2.2.2.2.2.2.2.2.2.1
abbrev zM_end (x : zM) : Int32 := x.2.2.2.2.2.2.2.2.2.2.2.2.2.2.2.2.1
abbrev zM_draft (x : zM) : (Nat → Int64) := x.2.2.2.2.2.2.2.2.2.2.2.2.2.2.2.2.2.1
abbrev zM_given (x : zM) : (Nat → Int32) := x.2.2.2.2.2.2.2.2.2.2.2.2.2.2.2.2.2.2.1
abbrev zM_gives (x : zM) : Int32 := x.2.2.2.2.2.2.2.2.2.2.2.2.2.2.2.2.2.2.2.1
abbrev zM_low (x : zM) : (Nat → Int64) := x.2.2.2.2.2.2.2.2.2.2.2.2.2.2.2.2.2.2.2.2.1
abbrev zM_high (x : zM) : (Nat → Int64) := x.2.2.2.2.2.2.2.2.2.2.2.2.2.2.2.2.2.2.2.2.2.1
abbrev zM_spans (x : zM) : Int32 := x.2.2.2.2.2.2.2.2.2.2.2.2.2.2.2.2.2.2.2.2.2.2.1
abbrev zM_packets (x : zM) : Int32 := x.2.2.2.2.2.2.2.2.2.2.2.2.2.2.2.2.2.2.2.2.2.2.2.1
abbrev zM_packet (x : zM) : (Nat → Int32) := x.2.2.2.2.2.2.2.2.2.2.2.2.2.2.2.2.2.2.2.2.2.2.2.2.1
abbrev zM_known (x : zM) : (Nat → Int64) := x.2.2.2.2.2.2.2.2.2.2.2.2.2.2.2.2.2.2.2.2.2.2.2.2.2
abbrev zM_thrown' (x : zM) (v : Int32) : zM := (v, x.2.1, x.2.2.1, x.2.2.2.1, x.2.2.2.2.1, x.2.2.2.2.2.1, x.2.2.2.2.2.2.1, x.2.2.2.2.2.2.2.1, x.2.2.2.2.2.2.2.2.1, x.2.2.2.2.2.2.2.2.2.1, x.2.2.2.2.2.2.2.2.2.2.1, x.2.2.2.2.2.2.2.2.2.2.2.1, x.2.2.2.2.2.2.2.2.2.2.2.2.1, x.2.2.2.2.2.2.2.2.2.2.2.2.2.1, x.2.2.2.2.2.2.2.2.2.2.2.2.2.2.1, x.2.2.2.2.2.2.2.2.2.2.2.2.2.2.2.1, x.2.2.2.2.2.2.2.2.2.2.2.2.2.2.2.2.1, x.2.2.2.2.2.2.2.2.2.2.2.2.2.2.2.2.2.1, x.2.2.2.2.2.2.2.2.2.2.2.2.2.2.2.2.2.2.1, x.2.2.2.2.2.2.2.2.2.2.2.2.2.2.2.2.2.2.2.1, x.2.2.2.2.2.2.2.2.2.2.2.2.2.2.2.2.2.2.2.2.1, x.2.2.2.2.2.2.2.2.2.2.2.2.2.2.2.2.2.2.2.2.2.1, x.2.2.2.2.2.2.2.2.2.2.2.2.2.2.2.2.2.2.2.2.2.2.1, x.2.2.2.2.2.2.2.2.2.2.2.2.2.2.2.2.2.2.2.2.2.2.2.1, x.2.2.2.2.2.2.2.2.2.2.2.2.2.2.2.2.2.2.2.2.2.2.2.2.1, x.2.2.2.2.2.2.2.2.2.2.2.2.2.2.2.2.2.2.2.2.2.2.2.2.2)
abbrev zM_tape' (x : zM) (v : (Nat → Int32)) : zM := (x.1, v, x.2.2.1, x.2.2.2.1, x.2.2.2.2.1, x.2.2.2.2.2.1, x.2.2.2.2.2.2.1, x.2.2.2.2.2.2.2.1, x.2.2.2.2.2.2.2.2.1, x.2.2.2.2.2.2.2.2.2.1, x.2.2.2.2.2.2.2.2.2.2.1, x.2.2.2.2.2.2.2.2.2.2.2.1, x.2.2.2.2.2.2.2.2.2.2.2.2.1, x.2.2.2.2.2.2.2.2.2.2.2.2.2.1, x.2.2.2.2.2.2.2.2.2.2.2.2.2.2.1, x.2.2.2.2.2.2.2.2.2.2.2.2.2.2.2.1, x.2.2.2.2.2.2.2.2.2.2.2.2.2.2.2.2.1, x.2.2.2.2.2.2.2.2.2.2.2.2.2.2.2.2.2.1, x.2.2.2.2.2.2.2.2.2.2.2.2.2.2.2.2.2.2.1, x.2.2.2.2.2.2.2.2.2.2.2.2.2.2.2.2.2.2.2.1, x.2.2.2.2.2.2.2.2.2.2.2.2.2.2.2.2.2.2.2.2.1, x.2.2.2.2.2.2.2.2.2.2.2.2.2.2.2.2.2.2.2.2.2.1, x.2.2.2.2.2.2.2.2.2.2.2.2.2.2.2.2.2.2.2.2.2.2.1, x.2.2.2.2.2.2.2.2.2.2.2.2.2.2.2.2.2.2.2.2.2.2.2.1, x.2.2.2.2.2.2.2.2.2.2.2.2.2.2.2.2.2.2.2.2.2.2.2.2.1, x.2.2.2.2.2.2.2.2.2.2.2.2.2.2.2.2.2.2.2.2.2.2.2.2.2)
abbrev zM_size' (x : zM) (v : Int32) : zM := (x.1, x.2.1, v, x.2.2.2.1, x.2.2.2.2.1, x.2.2.2.2.2.1, x.2.2.2.2.2.2.1, x.2.2.2.2.2.2.2.1, x.2.2.2.2.2.2.2.2.1, x.2.2.2.2.2.2.2.2.2.1, x.2.2.2.2.2.2.2.2.2.2.1, x.2.2.2.2.2.2.2.2.2.2.2.1, x.2.2.2.2.2.2.2.2.2.2.2.2.1, x.2.2.2.2.2.2.2.2.2.2.2.2.2.1, x.2.2.2.2.2.2.2.2.2.2.2.2.2.2.1, x.2.2.2.2.2.2.2.2.2.2.2.2.2.2.2.1, x.2.2.2.2.2.2.2.2.2.2.2.2.2.2.2.2.1, x.2.2.2.2.2.2.2.2.2.2.2.2.2.2.2.2.2.1, x.2.2.2.2.2.2.2.2.2.2.2.2.2.2.2.2.2.2.1, x.2.2.2.2.2.2.2.2.2.2.2.2.2.2.2.2.2.2.2.1, x.2.2.2.2.2.2.2.2.2.2.2.2.2.2.2.2.2.2.2.2.1, x.2.2.2.2.2.2.2.2.2.2.2.2.2.2.2.2.2.2.2.2.2.1, x.2.2.2.2.2.2.2.2.2.2.2.2.2.2.2.2.2.2.2.2.2.2.1, x.2.2.2.2.2.2.2.2.2.2.2.2.2.2.2.2.2.2.2.2.2.2.2.1, x.2.2.2.2.2.2.2.2.2.2.2.2.2.2.2.2.2.2.2.2.2.2.2.2.1, x.2.2.2.2.2.2.2.2.2.2.2.2.2.2.2.2.2.2.2.2.2.2.2.2.2)
abbrev zM_fault' (x : zM) (v : Int32) : zM := (x.1, x.2.1, x.2.2.1, v, x.2.2.2.2.1, x.2.2.2.2.2.1, x.2.2.2.2.2.2.1, x.2.2.2.2.2.2.2.1, x.2.2.2.2.2.2.2.2.1, x.2.2.2.2.2.2.2.2.2.1, x.2.2.2.2.2.2.2.2.2.2.1, x.2.2.2.2.2.2.2.2.2.2.2.1, x.2.2.2.2.2.2.2.2.2.2.2.2.1, x.2.2.2.2.2.2.2.2.2.2.2.2.2.1, x.2.2.2.2.2.2.2.2.2.2.2.2.2.2.1, x.2.2.2.2.2.2.2.2.2.2.2.2.2.2.2.1, x.2.2.2.2.2.2.2.2.2.2.2.2.2.2.2.2.1, x.2.2.2.2.2.2.2.2.2.2.2.2.2.2.2.2.2.1, x.2.2.2.2.2.2.2.2.2.2.2.2.2.2.2.2.2.2.1, x.2.2.2.2.2.2.2.2.2.2.2.2.2.2.2.2.2.2.2.1, x.2.2.2.2.2.2.2.2.2.2.2.2.2.2.2.2.2.2.2.2.1, x.2.2.2.2.2.2.2.2.2.2.2.2.2.2.2.2.2.2.2.2.2.1, x.2.2.2.2.2.2.2.2.2.2.2.2.2.2.2.2.2.2.2.2.2.2.1, x.2.2.2.2.2.2.2.2.2.2.2.2.2.2.2.2.2.2.2.2.2.2.2.1, x.2.2.2.2.2.2.2.2.2.2.2.2.2.2.2.2.2.2.2.2.2.2.2.2.1, x.2.2.2.2.2.2.2.2.2.2.2.2.2.2.2.2.2.2.2.2.2.2.2.2.2)
abbrev zM_faultAt' (x : zM) (v : Int32) : zM := (x.1, x.2.1, x.2.2.1, x.2.2.2.1, v, x.2.2.2.2.2.1, x.2.2.2.2.2.2.1, x.2.2.2.2.2.2.2.1, x.2.2.2.2.2.2.2.2.1, x.2.2.2.2.2.2.2.2.2.1, x.2.2.2.2.2.2.2.2.2.2.1, x.2.2.2.2.2.2.2.2.2.2.2.1, x.2.2.2.2.2.2.2.2.2.2.2.2.1, x.2.2.2.2.2.2.2.2.2.2.2.2.2.1, x.2.2.2.2.2.2.2.2.2.2.2.2.2.2.1, x.2.2.2.2.2.2.2.2.2.2.2.2.2.2.2.1, x.2.2.2.2.2.2.2.2.2.2.2.2.2.2.2.2.1, x.2.2.2.2.2.2.2.2.2.2.2.2.2.2.2.2.2.1, x.2.2.2.2.2.2.2.2.2.2.2.2.2.2.2.2.2.2.1, x.2.2.2.2.2.2.2.2.2.2.2.2.2.2.2.2.2.2.2.1, x.2.2.2.2.2.2.2.2.2.2.2.2.2.2.2.2.2.2.2.2.1, x.2.2.2.2.2.2.2.2.2.2.2.2.2.2.2.2.2.2.2.2.2.1, x.2.2.2.2.2.2.2.2.2.2.2.2.2.2.2.2.2.2.2.2.2.2.1, x.2.2.2.2.2.2.2.2.2.2.2.2.2.2.2.2.2.2.2.2.2.2.2.1, x.2.2.2.2.2.2.2.2.2.2.2.2.2.2.2.2.2.2.2.2.2.2.2.2.1, x.2.2.2.2.2.2.2.2.2.2.2.2.2.2.2.2.2.2.2.2.2.2.2.2.2)
abbrev zM_frames' (x : zM) (v : Int32) : zM := (x.1, x.2.1, x.2.2.1, x.2.2.2.1, x.2.2.2.2.1, v, x.2.2.2.2.2.2.1, x.2.2.2.2.2.2.2.1, x.2.2.2.2.2.2.2.2.1, x.2.2.2.2.2.2.2.2.2.1, x.2.2.2.2.2.2.2.2.2.2.1, x.2.2.2.2.2.2.2.2.2.2.2.1, x.2.2.2.2.2.2.2.2.2.2.2.2.1, x.2.2.2.2.2.2.2.2.2.2.2.2.2.1, x.2.2.2.2.2.2.2.2.2.2.2.2.2.2.1, x.2.2.2.2.2.2.2.2.2.2.2.2.2.2.2.1, x.2.2.2.2.2.2.2.2.2.2.2.2.2.2.2.2.1, x.2.2.2.2.2.2.2.2.2.2.2.2.2.2.2.2.2.1, x.2.2.2.2.2.2.2.2.2.2.2.2.2.2.2.2.2.2.1, x.2.2.2.2.2.2.2.2.2.2.2.2.2.2.2.2.2.2.2.1, x.2.2.2.2.2.2.2.2.2.2.2.2.2.2.2.2.2.2.2.2.1, x.2.2.2.2.2.2.2.2.2.2.2.2.2.2.2.2.2.2.2.2.2.1, x.2.2.2.2.2.2.2.2.2.2.2.2.2.2.2.2.2.2.2.2.2.2.1, x.2.2.2.2.2.2.2.2.2.2.2.2.2.2.2.2.2.2.2.2.2.2.2.1, x.2.2.2.2.2.2.2.2.2.2.2.2.2.2.2.2.2.2.2.2.2.2.2.2.1, x.2.2.2.2.2.2.2.2.2.2.2.2.2.2.2.2.2.2.2.2.2.2.2.2.2)
abbrev zM_frameAt' (x : zM) (v : (Nat → Int32)) : zM := (x.1, x.2.1, x.2.2.1, x.2.2.2.1, x.2.2.2.2.1, x.2.2.2.2.2.1, v, x.2.2.2.2.2.2.2.1, x.2.2.2.2.2.2.2.2.1, x.2.2.2.2.2.2.2.2.2.1, x.2.2.2.2.2.2.2.2.2.2.1, x.2.2.2.2.2.2.2.2.2.2.2.1, x.2.2.2.2.2.2.2.2.2.2.2.2.1, x.2.2.2.2.2.2.2.2.2.2.2.2.2.1, x.2.2.2.2.2.2.2.2.2.2.2.2.2.2.1, x.2.2.2.2.2.2.2.2.2.2.2.2.2.2.2.1, x.2.2.2.2.2.2.2.2.2.2.2.2.2.2.2.2.1, x.2.2.2.2.2.2.2.2.2.2.2.2.2.2.2.2.2.1, x.2.2.2.2.2.2.2.2.2.2.2.2.2.2.2.2.2.2.1, x.2.2.2.2.2.2.2.2.2.2.2.2.2.2.2.2.2.2.2.1, x.2.2.2.2.2.2.2.2.2.2.2.2.2.2.2.2.2.2.2.2.1, x.2.2.2.2.2.2.2.2.2.2.2.2.2.2.2.2.2.2.2.2.2.1, x.2.2.2.2.2.2.2.2.2.2.2.2.2.2.2.2.2.2.2.2.2.2.1, x.2.2.2.2.2.2.2.2.2.2.2.2.2.2.2.2.2.2.2.2.2.2.2.1, x.2.2.2.2.2.2.2.2.2.2.2.2.2.2.2.2.2.2.2.2.2.2.2.2.1, x.2.2.2.2.2.2.2.2.2.2.2.2.2.2.2.2.2.2.2.2.2.2.2.2.2)
abbrev zM_framesEnd' (x : zM) (v : Int32) : zM := (x.1, x.2.1, x.2.2.1, x.2.2.2.1, x.2.2.2.2.1, x.2.2.2.2.2.1, x.2.2.2.2.2.2.1, v, x.2.2.2.2.2.2.2.2.1, x.2.2.2.2.2.2.2.2.2.1, x.2.2.2.2.2.2.2.2.2.2.1, x.2.2.2.2.2.2.2.2.2.2.2.1, x.2.2.2.2.2.2.2.2.2.2.2.2.1, x.2.2.2.2.2.2.2.2.2.2.2.2.2.1, x.2.2.2.2.2.2.2.2.2.2.2.2.2.2.1, x.2.2.2.2.2.2.2.2.2.2.2.2.2.2.2.1, x.2.2.2.2.2.2.2.2.2.2.2.2.2.2.2.2.1, x.2.2.2.2.2.2.2.2.2.2.2.2.2.2.2.2.2.1, x.2.2.2.2.2.2.2.2.2.2.2.2.2.2.2.2.2.2.1, x.2.2.2.2.2.2.2.2.2.2.2.2.2.2.2.2.2.2.2.1, x.2.2.2.2.2.2.2.2.2.2.2.2.2.2.2.2.2.2.2.2.1, x.2.2.2.2.2.2.2.2.2.2.2.2.2.2.2.2.2.2.2.2.2.1, x.2.2.2.2.2.2.2.2.2.2.2.2.2.2.2.2.2.2.2.2.2.2.1, x.2.2.2.2.2.2.2.2.2.2.2.2.2.2.2.2.2.2.2.2.2.2.2.1, x.2.2.2.2.2.2.2.2.2.2.2.2.2.2.2.2.2.2.2.2.2.2.2.2.1, x.2.2.2.2.2.2.2.2.2.2.2.2.2.2.2.2.2.2.2.2.2.2.2.2.2)
abbrev zM_field' (x : zM) (v : (Nat → Int64)) : zM := (x.1, x.2.1, x.2.2.1, x.2.2.2.1, x.2.2.2.2.1, x.2.2.2.2.2.1, x.2.2.2.2.2.2.1, x.2.2.2.2.2.2.2.1, v, x.2.2.2.2.2.2.2.2.2.1, x.2.2.2.2.2.2.2.2.2.2.1, x.2.2.2.2.2.2.2.2.2.2.2.1, x.2.2.2.2.2.2.2.2.2.2.2.2.1, x.2.2.2.2.2.2.2.2.2.2.2.2.2.1, x.2.2.2.2.2.2.2.2.2.2.2.2.2.2.1, x.2.2.2.2.2.2.2.2.2.2.2.2.2.2.2.1, x.2.2.2.2.2.2.2.2.2.2.2.2.2.2.2.2.1, x.2.2.2.2.2.2.2.2.2.2.2.2.2.2.2.2.2.1, x.2.2.2.2.2.2.2.2.2.2.2.2.2.2.2.2.2.2.1, x.2.2.2.2.2.2.2.2.2.2.2.2.2.2.2.2.2.2.2.1, x.2.2.2.2.2.2.2.2.2.2.2.2.2.2.2.2.2.2.2.2.1, x.2.2.2.2.2.2.2.2.2.2.2.2.2.2.2.2.2.2.2.2.2.1, x.2.2.2.2.2.2.2.2.2.2.2.2.2.2.2.2.2.2.2.2.2.2.1, x.2.2.2.2.2.2.2.2.2.2.2.2.2.2.2.2.2.2.2.2.2.2.2.1, x.2.2.2.2.2.2.2.2.2.2.2.2.2.2.2.2.2.2.2.2.2.2.2.2.1, x.2.2.2.2.2.2.2.2.2.2.2.2.2.2.2.2.2.2.2.2.2.2.2.2.2)
abbrev zM_dataAt' (x : zM) (v : Int32) : zM := (x.1, x.2.1, x.2.2.1, x.2.2.2.1, x.2.2.2.2.1, x.2.2.2.2.2.1, x.2.2.2.2.2.2.1, x.2.2.2.2.2.2.2.1, x.2.2.2.2.2.2.2.2.1, v, x.2.2.2.2.2.2.2.2.2.2.1, x.2.2.2.2.2.2.2.2.2.2.2.1, x.2.2.2.2.2.2.2.2.2.2.2.2.1, x.2.2.2.2.2.2.2.2.2.2.2.2.2.1, x.2.2.2.2.2.2.2.2.2.2.2.2.2.2.1, x.2.2.2.2.2.2.2.2.2.2.2.2.2.2.2.1, x.2.2.2.2.2.2.2.2.2.2.2.2.2.2.2.2.1, x.2.2.2.2.2.2.2.2.2.2.2.2.2.2.2.2.2.1, x.2.2.2.2.2.2.2.2.2.2.2.2.2.2.2.2.2.2.1, x.2.2.2.2.2.2.2.2.2.2.2.2.2.2.2.2.2.2.2.1, x.2.2.2.2.2.2.2.2.2.2.2.2.2.2.2.2.2.2.2.2.1, x.2.2.2.2.2.2.2.2.2.2.2.2.2.2.2.2.2.2.2.2.2.1, x.2.2.2.2.2.2.2.2.2.2.2.2.2.2.2.2.2.2.2.2.2.2.1, x.2.2.2.2.2.2.2.2.2.2.2.2.2.2.2.2.2.2.2.2.2.2.2.1, x.2.2.2.2.2.2.2.2.2.2.2.2.2.2.2.2.2.2.2.2.2.2.2.2.1, x.2.2.2.2.2.2.2.2.2.2.2.2.2.2.2.2.2.2.2.2.2.2.2.2.2)
abbrev zM_dataSize' (x : zM) (v : Int32) : zM := (x.1, x.2.1, x.2.2.1, x.2.2.2.1, x.2.2.2.2.1, x.2.2.2.2.2.1, x.2.2.2.2.2.2.1, x.2.2.2.2.2.2.2.1, x.2.2.2.2.2.2.2.2.1, x.2.2.2.2.2.2.2.2.2.1, v, x.2.2.2.2.2.2.2.2.2.2.2.1, x.2.2.2.2.2.2.2.2.2.2.2.2.1, x.2.2.2.2.2.2.2.2.2.2.2.2.2.1, x.2.2.2.2.2.2.2.2.2.2.2.2.2.2.1, x.2.2.2.2.2.2.2.2.2.2.2.2.2.2.2.1, x.2.2.2.2.2.2.2.2.2.2.2.2.2.2.2.2.1, x.2.2.2.2.2.2.2.2.2.2.2.2.2.2.2.2.2.1, x.2.2.2.2.2.2.2.2.2.2.2.2.2.2.2.2.2.2.1, x.2.2.2.2.2.2.2.2.2.2.2.2.2.2.2.2.2.2.2.1, x.2.2.2.2.2.2.2.2.2.2.2.2.2.2.2.2.2.2.2.2.1, x.2.2.2.2.2.2.2.2.2.2.2.2.2.2.2.2.2.2.2.2.2.1, x.2.2.2.2.2.2.2.2.2.2.2.2.2.2.2.2.2.2.2.2.2.2.1, x.2.2.2.2.2.2.2.2.2.2.2.2.2.2.2.2.2.2.2.2.2.2.2.1, x.2.2.2.2.2.2.2.2.2.2.2.2.2.2.2.2.2.2.2.2.2.2.2.2.1, x.2.2.2.2.2.2.2.2.2.2.2.2.2.2.2.2.2.2.2.2.2.2.2.2.2)
abbrev zM_secretAt' (x : zM) (v : Int32) : zM := (x.1, x.2.1, x.2.2.1, x.2.2.2.1, x.2.2.2.2.1, x.2.2.2.2.2.1, x.2.2.2.2.2.2.1, x.2.2.2.2.2.2.2.1, x.2.2.2.2.2.2.2.2.1, x.2.2.2.2.2.2.2.2.2.1, x.2.2.2.2.2.2.2.2.2.2.1, v, x.2.2.2.2.2.2.2.2.2.2.2.2.1, x.2.2.2.2.2.2.2.2.2.2.2.2.2.1, x.2.2.2.2.2.2.2.2.2.2.2.2.2.2.1, x.2.2.2.2.2.2.2.2.2.2.2.2.2.2.2.1, x.2.2.2.2.2.2.2.2.2.2.2.2.2.2.2.2.1, x.2.2.2.2.2.2.2.2.2.2.2.2.2.2.2.2.2.1, x.2.2.2.2.2.2.2.2.2.2.2.2.2.2.2.2.2.2.1, x.2.2.2.2.2.2.2.2.2.2.2.2.2.2.2.2.2.2.2.1, x.2.2.2.2.2.2.2.2.2.2.2.2.2.2.2.2.2.2.2.2.1, x.2.2.2.2.2.2.2.2.2.2.2.2.2.2.2.2.2.2.2.2.2.1, x.2.2.2.2.2.2.2.2.2.2.2.2.2.2.2.2.2.2.2.2.2.2.1, x.2.2.2.2.2.2.2.2.2.2.2.2.2.2.2.2.2.2.2.2.2.2.2.1, x.2.2.2.2.2.2.2.2.2.2.2.2.2.2.2.2.2.2.2.2.2.2.2.2.1, x.2.2.2.2.2.2.2.2.2.2.2.2.2.2.2.2.2.2.2.2.2.2.2.2.2)
abbrev zM_ranges' (x : zM) (v : Int32) : zM := (x.1, x.2.1, x.2.2.1, x.2.2.2.1, x.2.2.2.2.1, x.2.2.2.2.2.1, x.2.2.2.2.2.2.1, x.2.2.2.2.2.2.2.1, x.2.2.2.2.2.2.2.2.1, x.2.2.2.2.2.2.2.2.2.1, x.2.2.2.2.2.2.2.2.2.2.1, x.2.2.2.2.2.2.2.2.2.2.2.1, v, x.2.2.2.2.2.2.2.2.2.2.2.2.2.1, x.2.2.2.2.2.2.2.2.2.2.2.2.2.2.1, x.2.2.2.2.2.2.2.2.2.2.2.2.2.2.2.1, x.2.2.2.2.2.2.2.2.2.2.2.2.2.2.2.2.1, x.2.2.2.2.2.2.2.2.2.2.2.2.2.2.2.2.2.1, x.2.2.2.2.2.2.2.2.2.2.2.2.2.2.2.2.2.2.1, x.2.2.2.2.2.2.2.2.2.2.2.2.2.2.2.2.2.2.2.1, x.2.2.2.2.2.2.2.2.2.2.2.2.2.2.2.2.2.2.2.2.1, x.2.2.2.2.2.2.2.2.2.2.2.2.2.2.2.2.2.2.2.2.2.1, x.2.2.2.2.2.2.2.2.2.2.2.2.2.2.2.2.2.2.2.2.2.2.1, x.2.2.2.2.2.2.2.2.2.2.2.2.2.2.2.2.2.2.2.2.2.2.2.1, x.2.2.2.2.2.2.2.2.2.2.2.2.2.2.2.2.2.2.2.2.2.2.2.2.1, x.2.2.2.2.2.2.2.2.2.2.2.2.2.2.2.2.2.2.2.2.2.2.2.2.2)
abbrev zM_rangesAt' (x : zM) (v : Int32) : zM := (x.1, x.2.1, x.2.2.1, x.2.2.2.1, x.2.2.2.2.1, x.2.2.2.2.2.1, x.2.2.2.2.2.2.1, x.2.2.2.2.2.2.2.1, x.2.2.2.2.2.2.2.2.1, x.2.2.2.2.2.2.2.2.2.1, x.2.2.2.2.2.2.2.2.2.2.1, x.2.2.2.2.2.2.2.2.2.2.2.1, x.2.2.2.2.2.2.2.2.2.2.2.2.1, v, x.2.2.2.2.2.2.2.2.2.2.2.2.2.2.1, x.2.2.2.2.2.2.2.2.2.2.2.2.2.2.2.1, x.2.2.2.2.2.2.2.2.2.2.2.2.2.2.2.2.1, x.2.2.2.2.2.2.2.2.2.2.2.2.2.2.2.2.2.1, x.2.2.2.2.2.2.2.2.2.2.2.2.2.2.2.2.2.2.1, x.2.2.2.2.2.2.2.2.2.2.2.2.2.2.2.2.2.2.2.1, x.2.2.2.2.2.2.2.2.2.2.2.2.2.2.2.2.2.2.2.2.1, x.2.2.2.2.2.2.2.2.2.2.2.2.2.2.2.2.2.2.2.2.2.1, x.2.2.2.2.2.2.2.2.2.2.2.2.2.2.2.2.2.2.2.2.2.2.1, x.2.2.2.2.2.2.2.2.2.2.2.2.2.2.2.2.2.2.2.2.2.2.2.1, x.2.2.2.2.2.2.2.2.2.2.2.2.2.2.2.2.2.2.2.2.2.2.2.2.1, x.2.2.2.2.2.2.2.2.2.2.2.2.2.2.2.2.2.2.2.2.2.2.2.2.2)
abbrev zM_at' (x : zM) (v : Int32) : zM := (x.1, x.2.1, x.2.2.1, x.2.2.2.1, x.2.2.2.2.1, x.2.2.2.2.2.1, x.2.2.2.2.2.2.1, x.2.2.2.2.2.2.2.1, x.2.2.2.2.2.2.2.2.1, x.2.2.2.2.2.2.2.2.2.1, x.2.2.2.2.2.2.2.2.2.2.1, x.2.2.2.2.2.2.2.2.2.2.2.1, x.2.2.2.2.2.2.2.2.2.2.2.2.1, x.2.2.2.2.2.2.2.2.2.2.2.2.2.1, v, x.2.2.2.2.2.2.2.2.2.2.2.2.2.2.2.1, x.2.2.2.2.2.2.2.2.2.2.2.2.2.2.2.2.1, x.2.2.2.2.2.2.2.2.2.2.2.2.2.2.2.2.2.1, x.2.2.2.2.2.2.2.2.2.2.2.2.2.2.2.2.2.2.1, x.2.2.2.2.2.2.2.2.2.2.2.2.2.2.2.2.2.2.2.1, x.2.2.2.2.2.2.2.2.2.2.2.2.2.2.2.2.2.2.2.2.1, x.2.2.2.2.2.2.2.2.2.2.2.2.2.2.2.2.2.2.2.2.2.1, x.2.2.2.2.2.2.2.2.2.2.2.2.2.2.2.2.2.2.2.2.2.2.1, x.2.2.2.2.2.2.2.2.2.2.2.2.2.2.2.2.2.2.2.2.2.2.2.1, x.2.2.2.2.2.2.2.2.2.2.2.2.2.2.2.2.2.2.2.2.2.2.2.2.1, x.2.2.2.2.2.2.2.2.2.2.2.2.2.2.2.2.2.2.2.2.2.2.2.2.2)
abbrev zM_over' (x : zM) (v : Int32) : zM := (x.1, x.2.1, x.2.2.1, x.2.2.2.1, x.2.2.2.2.1, x.2.2.2.2.2.1, x.2.2.2.2.2.2.1, x.2.2.2.2.2.2.2.1, x.2.2.2.2.2.2.2.2.1, x.2.2.2.2.2.2.2.2.2.1, x.2.2.2.2.2.2.2.2.2.2.1, x.2.2.2.2.2.2.2.2.2.2.2.1, x.2.2.2.2.2.2.2.2.2.2.2.2.1, x.2.2.2.2.2.2.2.2.2.2.2.2.2.1, x.2.2.2.2.2.2.2.2.2.2.2.2.2.2.1, v, x.2.2.2.2.2.2.2.2.2.2.2.2.2.2.2.2.1, x.2.2.2.2.2.2.2.2.2.2.2.2.2.2.2.2.2.1, x.2.2.2.2.2.2.2.2.2.2.2.2.2.2.2.2.2.2.1, x.2.2.2.2.2.2.2.2.2.2.2.2.2.2.2.2.2.2.2.1, x.2.2.2.2.2.2.2.2.2.2.2.2.2.2.2.2.2.2.2.2.1, x.2.2.2.2.2.2.2.2.2.2.2.2.2.2.2.2.2.2.2.2.2.1, x.2.2.2.2.2.2.2.2.2.2.2.2.2.2.2.2.2.2.2.2.2.2.1, x.2.2.2.2.2.2.2.2.2.2.2.2.2.2.2.2.2.2.2.2.2.2.2.1, x.2.2.2.2.2.2.2.2.2.2.2.2.2.2.2.2.2.2.2.2.2.2.2.2.1, x.2.2.2.2.2.2.2.2.2.2.2.2.2.2.2.2.2.2.2.2.2.2.2.2.2)
abbrev zM_end' (x : zM) (v : Int32) : zM := (x.1, x.2.1, x.2.2.1, x.2.2.2.1, x.2.2.2.2.1, x.2.2.2.2.2.1, x.2.2.2.2.2.2.1, x.2.2.2.2.2.2.2.1, x.2.2.2.2.2.2.2.2.1, x.2.2.2.2.2.2.2.2.2.1, x.2.2.2.2.2.2.2.2.2.2.1, x.2.2.2.2.2.2.2.2.2.2.2.1, x.2.2.2.2.2.2.2.2.2.2.2.2.1, x.2.2.2.2.2.2.2.2.2.2.2.2.2.1, x.2.2.2.2.2.2.2.2.2.2.2.2.2.2.1, x.2.2.2.2.2.2.2.2.2.2.2.2.2.2.2.1, v, x.2.2.2.2.2.2.2.2.2.2.2.2.2.2.2.2.2.1, x.2.2.2.2.2.2.2.2.2.2.2.2.2.2.2.2.2.2.1, x.2.2.2.2.2.2.2.2.2.2.2.2.2.2.2.2.2.2.2.1, x.2.2.2.2.2.2.2.2.2.2.2.2.2.2.2.2.2.2.2.2.1, x.2.2.2.2.2.2.2.2.2.2.2.2.2.2.2.2.2.2.2.2.2.1, x.2.2.2.2.2.2.2.2.2.2.2.2.2.2.2.2.2.2.2.2.2.2.1, x.2.2.2.2.2.2.2.2.2.2.2.2.2.2.2.2.2.2.2.2.2.2.2.1, x.2.2.2.2.2.2.2.2.2.2.2.2.2.2.2.2.2.2.2.2.2.2.2.2.1, x.2.2.2.2.2.2.2.2.2.2.2.2.2.2.2.2.2.2.2.2.2.2.2.2.2)
abbrev zM_draft' (x : zM) (v : (Nat → Int64)) : zM := (x.1, x.2.1, x.2.2.1, x.2.2.2.1, x.2.2.2.2.1, x.2.2.2.2.2.1, x.2.2.2.2.2.2.1, x.2.2.2.2.2.2.2.1, x.2.2.2.2.2.2.2.2.1, x.2.2.2.2.2.2.2.2.2.1, x.2.2.2.2.2.2.2.2.2.2.1, x.2.2.2.2.2.2.2.2.2.2.2.1, x.2.2.2.2.2.2.2.2.2.2.2.2.1, x.2.2.2.2.2.2.2.2.2.2.2.2.2.1, x.2.2.2.2.2.2.2.2.2.2.2.2.2.2.1, x.2.2.2.2.2.2.2.2.2.2.2.2.2.2.2.1, x.2.2.2.2.2.2.2.2.2.2.2.2.2.2.2.2.1, v, x.2.2.2.2.2.2.2.2.2.2.2.2.2.2.2.2.2.2.1, x.2.2.2.2.2.2.2.2.2.2.2.2.2.2.2.2.2.2.2.1, x.2.2.2.2.2.2.2.2.2.2.2.2.2.2.2.2.2.2.2.2.1, x.2.2.2.2.2.2.2.2.2.2.2.2.2.2.2.2.2.2.2.2.2.1, x.2.2.2.2.2.2.2.2.2.2.2.2.2.2.2.2.2.2.2.2.2.2.1, x.2.2.2.2.2.2.2.2.2.2.2.2.2.2.2.2.2.2.2.2.2.2.2.1, x.2.2.2.2.2.2.2.2.2.2.2.2.2.2.2.2.2.2.2.2.2.2.2.2.1, x.2.2.2.2.2.2.2.2.2.2.2.2.2.2.2.2.2.2.2.2.2.2.2.2.2)
abbrev zM_given' (x : zM) (v : (Nat → Int32)) : zM := (x.1, x.2.1, x.2.2.1, x.2.2.2.1, x.2.2.2.2.1, x.2.2.2.2.2.1, x.2.2.2.2.2.2.1, x.2.2.2.2.2.2.2.1, x.2.2.2.2.2.2.2.2.1, x.2.2.2.2.2.2.2.2.2.1, x.2.2.2.2.2.2.2.2.2.2.1, x.2.2.2.2.2.2.2.2.2.2.2.1, x.2.2.2.2.2.2.2.2.2.2.2.2.1, x.2.2.2.2.2.2.2.2.2.2.2.2.2.1, x.2.2.2.2.2.2.2.2.2.2.2.2.2.2.1, x.2.2.2.2.2.2.2.2.2.2.2.2.2.2.2.1, x.2.2.2.2.2.2.2.2.2.2.2.2.2.2.2.2.1, x.2.2.2.2.2.2.2.2.2.2.2.2.2.2.2.2.2.1, v, x.2.2.2.2.2.2.2.2.2.2.2.2.2.2.2.2.2.2.2.1, x.2.2.2.2.2.2.2.2.2.2.2.2.2.2.2.2.2.2.2.2.1, x.2.2.2.2.2.2.2.2.2.2.2.2.2.2.2.2.2.2.2.2.2.1, x.2.2.2.2.2.2.2.2.2.2.2.2.2.2.2.2.2.2.2.2.2.2.1, x.2.2.2.2.2.2.2.2.2.2.2.2.2.2.2.2.2.2.2.2.2.2.2.1, x.2.2.2.2.2.2.2.2.2.2.2.2.2.2.2.2.2.2.2.2.2.2.2.2.1, x.2.2.2.2.2.2.2.2.2.2.2.2.2.2.2.2.2.2.2.2.2.2.2.2.2)
abbrev zM_gives' (x : zM) (v : Int32) : zM := (x.1, x.2.1, x.2.2.1, x.2.2.2.1, x.2.2.2.2.1, x.2.2.2.2.2.1, x.2.2.2.2.2.2.1, x.2.2.2.2.2.2.2.1, x.2.2.2.2.2.2.2.2.1, x.2.2.2.2.2.2.2.2.2.1, x.2.2.2.2.2.2.2.2.2.2.1, x.2.2.2.2.2.2.2.2.2.2.2.1, x.2.2.2.2.2.2.2.2.2.2.2.2.1, x.2.2.2.2.2.2.2.2.2.2.2.2.2.1, x.2.2.2.2.2.2.2.2.2.2.2.2.2.2.1, x.2.2.2.2.2.2.2.2.2.2.2.2.2.2.2.1, x.2.2.2.2.2.2.2.2.2.2.2.2.2.2.2.2.1, x.2.2.2.2.2.2.2.2.2.2.2.2.2.2.2.2.2.1, x.2.2.2.2.2.2.2.2.2.2.2.2.2.2.2.2.2.2.1, v, x.2.2.2.2.2.2.2.2.2.2.2.2.2.2.2.2.2.2.2.2.1, x.2.2.2.2.2.2.2.2.2.2.2.2.2.2.2.2.2.2.2.2.2.1, x.2.2.2.2.2.2.2.2.2.2.2.2.2.2.2.2.2.2.2.2.2.2.1, x.2.2.2.2.2.2.2.2.2.2.2.2.2.2.2.2.2.2.2.2.2.2.2.1, x.2.2.2.2.2.2.2.2.2.2.2.2.2.2.2.2.2.2.2.2.2.2.2.2.1, x.2.2.2.2.2.2.2.2.2.2.2.2.2.2.2.2.2.2.2.2.2.2.2.2.2)
abbrev zM_low' (x : zM) (v : (Nat → Int64)) : zM := (x.1, x.2.1, x.2.2.1, x.2.2.2.1, x.2.2.2.2.1, x.2.2.2.2.2.1, x.2.2.2.2.2.2.1, x.2.2.2.2.2.2.2.1, x.2.2.2.2.2.2.2.2.1, x.2.2.2.2.2.2.2.2.2.1, x.2.2.2.2.2.2.2.2.2.2.1, x.2.2.2.2.2.2.2.2.2.2.2.1, x.2.2.2.2.2.2.2.2.2.2.2.2.1, x.2.2.2.2.2.2.2.2.2.2.2.2.2.1, x.2.2.2.2.2.2.2.2.2.2.2.2.2.2.1, x.2.2.2.2.2.2.2.2.2.2.2.2.2.2.2.1, x.2.2.2.2.2.2.2.2.2.2.2.2.2.2.2.2.1, x.2.2.2.2.2.2.2.2.2.2.2.2.2.2.2.2.2.1, x.2.2.2.2.2.2.2.2.2.2.2.2.2.2.2.2.2.2.1, x.2.2.2.2.2.2.2.2.2.2.2.2.2.2.2.2.2.2.2.1, v, x.2.2.2.2.2.2.2.2.2.2.2.2.2.2.2.2.2.2.2.2.2.1, x.2.2.2.2.2.2.2.2.2.2.2.2.2.2.2.2.2.2.2.2.2.2.1, x.2.2.2.2.2.2.2.2.2.2.2.2.2.2.2.2.2.2.2.2.2.2.2.1, x.2.2.2.2.2.2.2.2.2.2.2.2.2.2.2.2.2.2.2.2.2.2.2.2.1, x.2.2.2.2.2.2.2.2.2.2.2.2.2.2.2.2.2.2.2.2.2.2.2.2.2)
abbrev zM_high' (x : zM) (v : (Nat → Int64)) : zM := (x.1, x.2.1, x.2.2.1, x.2.2.2.1, x.2.2.2.2.1, x.2.2.2.2.2.1, x.2.2.2.2.2.2.1, x.2.2.2.2.2.2.2.1, x.2.2.2.2.2.2.2.2.1, x.2.2.2.2.2.2.2.2.2.1, x.2.2.2.2.2.2.2.2.2.2.1, x.2.2.2.2.2.2.2.2.2.2.2.1, x.2.2.2.2.2.2.2.2.2.2.2.2.1, x.2.2.2.2.2.2.2.2.2.2.2.2.2.1, x.2.2.2.2.2.2.2.2.2.2.2.2.2.2.1, x.2.2.2.2.2.2.2.2.2.2.2.2.2.2.2.1, x.2.2.2.2.2.2.2.2.2.2.2.2.2.2.2.2.1, x.2.2.2.2.2.2.2.2.2.2.2.2.2.2.2.2.2.1, x.2.2.2.2.2.2.2.2.2.2.2.2.2.2.2.2.2.2.1, x.2.2.2.2.2.2.2.2.2.2.2.2.2.2.2.2.2.2.2.1, x.2.2.2.2.2.2.2.2.2.2.2.2.2.2.2.2.2.2.2.2.1, v, x.2.2.2.2.2.2.2.2.2.2.2.2.2.2.2.2.2.2.2.2.2.2.1, x.2.2.2.2.2.2.2.2.2.2.2.2.2.2.2.2.2.2.2.2.2.2.2.1, x.2.2.2.2.2.2.2.2.2.2.2.2.2.2.2.2.2.2.2.2.2.2.2.2.1, x.2.2.2.2.2.2.2.2.2.2.2.2.2.2.2.2.2.2.2.2.2.2.2.2.2)
abbrev zM_spans' (x : zM) (v : Int32) : zM := (x.1, x.2.1, x.2.2.1, x.2.2.2.1, x.2.2.2.2.1, x.2.2.2.2.2.1, x.2.2.2.2.2.2.1, x.2.2.2.2.2.2.2.1, x.2.2.2.2.2.2.2.2.1, x.2.2.2.2.2.2.2.2.2.1, x.2.2.2.2.2.2.2.2.2.2.1, x.2.2.2.2.2.2.2.2.2.2.2.1, x.2.2.2.2.2.2.2.2.2.2.2.2.1, x.2.2.2.2.2.2.2.2.2.2.2.2.2.1, x.2.2.2.2.2.2.2.2.2.2.2.2.2.2.1, x.2.2.2.2.2.2.2.2.2.2.2.2.2.2.2.1, x.2.2.2.2.2.2.2.2.2.2.2.2.2.2.2.2.1, x.2.2.2.2.2.2.2.2.2.2.2.2.2.2.2.2.2.1, x.2.2.2.2.2.2.2.2.2.2.2.2.2.2.2.2.2.2.1, x.2.2.2.2.2.2.2.2.2.2.2.2.2.2.2.2.2.2.2.1, x.2.2.2.2.2.2.2.2.2.2.2.2.2.2.2.2.2.2.2.2.1, x.2.2.2.2.2.2.2.2.2.2.2.2.2.2.2.2.2.2.2.2.2.1, v, x.2.2.2.2.2.2.2.2.2.2.2.2.2.2.2.2.2.2.2.2.2.2.2.1, x.2.2.2.2.2.2.2.2.2.2.2.2.2.2.2.2.2.2.2.2.2.2.2.2.1, x.2.2.2.2.2.2.2.2.2.2.2.2.2.2.2.2.2.2.2.2.2.2.2.2.2)
abbrev zM_packets' (x : zM) (v : Int32) : zM := (x.1, x.2.1, x.2.2.1, x.2.2.2.1, x.2.2.2.2.1, x.2.2.2.2.2.1, x.2.2.2.2.2.2.1, x.2.2.2.2.2.2.2.1, x.2.2.2.2.2.2.2.2.1, x.2.2.2.2.2.2.2.2.2.1, x.2.2.2.2.2.2.2.2.2.2.1, x.2.2.2.2.2.2.2.2.2.2.2.1, x.2.2.2.2.2.2.2.2.2.2.2.2.1, x.2.2.2.2.2.2.2.2.2.2.2.2.2.1, x.2.2.2.2.2.2.2.2.2.2.2.2.2.2.1, x.2.2.2.2.2.2.2.2.2.2.2.2.2.2.2.1, x.2.2.2.2.2.2.2.2.2.2.2.2.2.2.2.2.1, x.2.2.2.2.2.2.2.2.2.2.2.2.2.2.2.2.2.1, x.2.2.2.2.2.2.2.2.2.2.2.2.2.2.2.2.2.2.1, x.2.2.2.2.2.2.2.2.2.2.2.2.2.2.2.2.2.2.2.1, x.2.2.2.2.2.2.2.2.2.2.2.2.2.2.2.2.2.2.2.2.1, x.2.2.2.2.2.2.2.2.2.2.2.2.2.2.2.2.2.2.2.2.2.1, x.2.2.2.2.2.2.2.2.2.2.2.2.2.2.2.2.2.2.2.2.2.2.1, v, x.2.2.2.2.2.2.2.2.2.2.2.2.2.2.2.2.2.2.2.2.2.2.2.2.1, x.2.2.2.2.2.2.2.2.2.2.2.2.2.2.2.2.2.2.2.2.2.2.2.2.2)
abbrev zM_packet' (x : zM) (v : (Nat → Int32)) : zM := (x.1, x.2.1, x.2.2.1, x.2.2.2.1, x.2.2.2.2.1, x.2.2.2.2.2.1, x.2.2.2.2.2.2.1, x.2.2.2.2.2.2.2.1, x.2.2.2.2.2.2.2.2.1, x.2.2.2.2.2.2.2.2.2.1, x.2.2.2.2.2.2.2.2.2.2.1, x.2.2.2.2.2.2.2.2.2.2.2.1, x.2.2.2.2.2.2.2.2.2.2.2.2.1, x.2.2.2.2.2.2.2.2.2.2.2.2.2.1, x.2.2.2.2.2.2.2.2.2.2.2.2.2.2.1, x.2.2.2.2.2.2.2.2.2.2.2.2.2.2.2.1, x.2.2.2.2.2.2.2.2.2.2.2.2.2.2.2.2.1, x.2.2.2.2.2.2.2.2.2.2.2.2.2.2.2.2.2.1, x.2.2.2.2.2.2.2.2.2.2.2.2.2.2.2.2.2.2.1, x.2.2.2.2.2.2.2.2.2.2.2.2.2.2.2.2.2.2.2.1, x.2.2.2.2.2.2.2.2.2.2.2.2.2.2.2.2.2.2.2.2.1, x.2.2.2.2.2.2.2.2.2.2.2.2.2.2.2.2.2.2.2.2.2.1, x.2.2.2.2.2.2.2.2.2.2.2.2.2.2.2.2.2.2.2.2.2.2.1, x.2.2.2.2.2.2.2.2.2.2.2.2.2.2.2.2.2.2.2.2.2.2.2.1, v, x.2.2.2.2.2.2.2.2.2.2.2.2.2.2.2.2.2.2.2.2.2.2.2.2.2)
abbrev zM_known' (x : zM) (v : (Nat → Int64)) : zM := (x.1, x.2.1, x.2.2.1, x.2.2.2.1, x.2.2.2.2.1, x.2.2.2.2.2.1, x.2.2.2.2.2.2.1, x.2.2.2.2.2.2.2.1, x.2.2.2.2.2.2.2.2.1, x.2.2.2.2.2.2.2.2.2.1, x.2.2.2.2.2.2.2.2.2.2.1, x.2.2.2.2.2.2.2.2.2.2.2.1, x.2.2.2.2.2.2.2.2.2.2.2.2.1, x.2.2.2.2.2.2.2.2.2.2.2.2.2.1, x.2.2.2.2.2.2.2.2.2.2.2.2.2.2.1, x.2.2.2.2.2.2.2.2.2.2.2.2.2.2.2.1, x.2.2.2.2.2.2.2.2.2.2.2.2.2.2.2.2.1, x.2.2.2.2.2.2.2.2.2.2.2.2.2.2.2.2.2.1, x.2.2.2.2.2.2.2.2.2.2.2.2.2.2.2.2.2.2.1, x.2.2.2.2.2.2.2.2.2.2.2.2.2.2.2.2.2.2.2.1, x.2.2.2.2.2.2.2.2.2.2.2.2.2.2.2.2.2.2.2.2.1, x.2.2.2.2.2.2.2.2.2.2.2.2.2.2.2.2.2.2.2.2.2.1, x.2.2.2.2.2.2.2.2.2.2.2.2.2.2.2.2.2.2.2.2.2.2.1, x.2.2.2.2.2.2.2.2.2.2.2.2.2.2.2.2.2.2.2.2.2.2.2.1, x.2.2.2.2.2.2.2.2.2.2.2.2.2.2.2.2.2.2.2.2.2.2.2.2.1, v)
abbrev zwM (o o_tape o_frameAt o_field o_draft o_given o_low o_high o_packet o_known : Nat) (cB cI cL : ClassId) (x : zM) : va_W := [(o, .inr (8, [.int (zM_thrown x), .ref o_tape, .int (zM_size x), .int (zM_fault x), .int (zM_faultAt x), .int (zM_frames x), .ref o_frameAt, .int (zM_framesEnd x), .ref o_field, .int (zM_dataAt x), .int (zM_dataSize x), .int (zM_secretAt x), .int (zM_ranges x), .int (zM_rangesAt x), .int (zM_at x), .int (zM_over x), .int (zM_end x), .ref o_draft, .ref o_given, .int (zM_gives x), .ref o_low, .ref o_high, .int (zM_spans x), .int (zM_packets x), .ref o_packet, .ref o_known])), (o_tape, .inl (cB, 65536, .inl (zM_tape x))), (o_frameAt, .inl (cI, 65536, .inl (zM_frameAt x))), (o_field, .inl (cL, 12, .inr (.inl (zM_field x)))), (o_draft, .inl (cL, 12, .inr (.inl (zM_draft x)))), (o_given, .inl (cB, 2000, .inl (zM_given x))), (o_low, .inl (cL, 500, .inr (.inl (zM_low x)))), (o_high, .inl (cL, 500, .inr (.inl (zM_high x)))), (o_packet, .inl (cI, 49152, .inl (zM_packet x))), (o_known, .inl (cL, 17, .inr (.inl (zM_known x))))]
theorem zq_M_thrown {o o_tape o_frameAt o_field o_draft o_given o_low o_high o_packet o_known : Nat} {cB cI cL : ClassId} {x : zM} {v : Int32} : (zwM o o_tape o_frameAt o_field o_draft o_given o_low o_high o_packet o_known cB cI cL x).set 0 (o, .inr (8, ([.int (zM_thrown x), .ref o_tape, .int (zM_size x), .int (zM_fault x), .int (zM_faultAt x), .int (zM_frames x), .ref o_frameAt, .int (zM_framesEnd x), .ref o_field, .int (zM_dataAt x), .int (zM_dataSize x), .int (zM_secretAt x), .int (zM_ranges x), .int (zM_rangesAt x), .int (zM_at x), .int (zM_over x), .int (zM_end x), .ref o_draft, .ref o_given, .int (zM_gives x), .ref o_low, .ref o_high, .int (zM_spans x), .int (zM_packets x), .ref o_packet, .ref o_known] : List Value).set 0 (.int v))) = zwM o o_tape o_frameAt o_field o_draft o_given o_low o_high o_packet o_known cB cI cL (zM_thrown' x v) := rfl
theorem zp_M_thrown {D : va_G} {cl : List vw_C} {H : Heap} {o o_tape o_frameAt o_field o_draft o_given o_low o_high o_packet o_known : Nat} {cB cI cL : ClassId} {x : zM} {v : Int32} (h : va_P D cl ((zwM o o_tape o_frameAt o_field o_draft o_given o_low o_high o_packet o_known cB cI cL x).set 0 (o, .inr (8, ([.int (zM_thrown x), .ref o_tape, .int (zM_size x), .int (zM_fault x), .int (zM_faultAt x), .int (zM_frames x), .ref o_frameAt, .int (zM_framesEnd x), .ref o_field, .int (zM_dataAt x), .int (zM_dataSize x), .int (zM_secretAt x), .int (zM_ranges x), .int (zM_rangesAt x), .int (zM_at x), .int (zM_over x), .int (zM_end x), .ref o_draft, .ref o_given, .int (zM_gives x), .ref o_low, .ref o_high, .int (zM_spans x), .int (zM_packets x), .ref o_packet, .ref o_known] : List Value).set 0 (.int v)))) H) : va_P D cl (zwM o o_tape o_frameAt o_field o_draft o_given o_low o_high o_packet o_known cB cI cL (zM_thrown' x v)) H := zq_M_thrown ▸ h
theorem zd_M_thrown {A : Nat → Prop} {o o_tape o_frameAt o_field o_draft o_given o_low o_high o_packet o_known : Nat} {cB cI cL : ClassId} {x : zM} {v : Int32} (h : va_D A ((zwM o o_tape o_frameAt o_field o_draft o_given o_low o_high o_packet o_known cB cI cL x).set 0 (o, .inr (8, ([.int (zM_thrown x), .ref o_tape, .int (zM_size x), .int (zM_fault x), .int (zM_faultAt x), .int (zM_frames x), .ref o_frameAt, .int (zM_framesEnd x), .ref o_field, .int (zM_dataAt x), .int (zM_dataSize x), .int (zM_secretAt x), .int (zM_ranges x), .int (zM_rangesAt x), .int (zM_at x), .int (zM_over x), .int (zM_end x), .ref o_draft, .ref o_given, .int (zM_gives x), .ref o_low, .ref o_high, .int (zM_spans x), .int (zM_packets x), .ref o_packet, .ref o_known] : List Value).set 0 (.int v))))) : va_D A (zwM o o_tape o_frameAt o_field o_draft o_given o_low o_high o_packet o_known cB cI cL (zM_thrown' x v)) := zq_M_thrown ▸ h
theorem zq_M_tape {o o_tape o_frameAt o_field o_draft o_given o_low o_high o_packet o_known : Nat} {cB cI cL : ClassId} {x : zM} {v : (Nat → Int32)} : (zwM o o_tape o_frameAt o_field o_draft o_given o_low o_high o_packet o_known cB cI cL x).set 1 (o_tape, .inl (cB, 65536, .inl v)) = zwM o o_tape o_frameAt o_field o_draft o_given o_low o_high o_packet o_known cB cI cL (zM_tape' x v) := rfl
theorem zp_M_tape {D : va_G} {cl : List vw_C} {H : Heap} {o o_tape o_frameAt o_field o_draft o_given o_low o_high o_packet o_known : Nat} {cB cI cL : ClassId} {x : zM} {v : (Nat → Int32)} (h : va_P D cl ((zwM o o_tape o_frameAt o_field o_draft o_given o_low o_high o_packet o_known cB cI cL x).set 1 (o_tape, .inl (cB, 65536, .inl v))) H) : va_P D cl (zwM o o_tape o_frameAt o_field o_draft o_given o_low o_high o_packet o_known cB cI cL (zM_tape' x v)) H := zq_M_tape ▸ h
theorem zd_M_tape {A : Nat → Prop} {o o_tape o_frameAt o_field o_draft o_given o_low o_high o_packet o_known : Nat} {cB cI cL : ClassId} {x : zM} {v : (Nat → Int32)} (h : va_D A ((zwM o o_tape o_frameAt o_field o_draft o_given o_low o_high o_packet o_known cB cI cL x).set 1 (o_tape, .inl (cB, 65536, .inl v)))) : va_D A (zwM o o_tape o_frameAt o_field o_draft o_given o_low o_high o_packet o_known cB cI cL (zM_tape' x v)) := zq_M_tape ▸ h
theorem zq_M_size {o o_tape o_frameAt o_field o_draft o_given o_low o_high o_packet o_known : Nat} {cB cI cL : ClassId} {x : zM} {v : Int32} : (zwM o o_tape o_frameAt o_field o_draft o_given o_low o_high o_packet o_known cB cI cL x).set 0 (o, .inr (8, ([.int (zM_thrown x), .ref o_tape, .int (zM_size x), .int (zM_fault x), .int (zM_faultAt x), .int (zM_frames x), .ref o_frameAt, .int (zM_framesEnd x), .ref o_field, .int (zM_dataAt x), .int (zM_dataSize x), .int (zM_secretAt x), .int (zM_ranges x), .int (zM_rangesAt x), .int (zM_at x), .int (zM_over x), .int (zM_end x), .ref o_draft, .ref o_given, .int (zM_gives x), .ref o_low, .ref o_high, .int (zM_spans x), .int (zM_packets x), .ref o_packet, .ref o_known] : List Value).set 2 (.int v))) = zwM o o_tape o_frameAt o_field o_draft o_given o_low o_high o_packet o_known cB cI cL (zM_size' x v) := rfl
theorem zp_M_size {D : va_G} {cl : List vw_C} {H : Heap} {o o_tape o_frameAt o_field o_draft o_given o_low o_high o_packet o_known : Nat} {cB cI cL : ClassId} {x : zM} {v : Int32} (h : va_P D cl ((zwM o o_tape o_frameAt o_field o_draft o_given o_low o_high o_packet o_known cB cI cL x).set 0 (o, .inr (8, ([.int (zM_thrown x), .ref o_tape, .int (zM_size x), .int (zM_fault x), .int (zM_faultAt x), .int (zM_frames x), .ref o_frameAt, .int (zM_framesEnd x), .ref o_field, .int (zM_dataAt x), .int (zM_dataSize x), .int (zM_secretAt x), .int (zM_ranges x), .int (zM_rangesAt x), .int (zM_at x), .int (zM_over x), .int (zM_end x), .ref o_draft, .ref o_given, .int (zM_gives x), .ref o_low, .ref o_high, .int (zM_spans x), .int (zM_packets x), .ref o_packet, .ref o_known] : List Value).set 2 (.int v)))) H) : va_P D cl (zwM o o_tape o_frameAt o_field o_draft o_given o_low o_high o_packet o_known cB cI cL (zM_size' x v)) H := zq_M_size ▸ h
theorem zd_M_size {A : Nat → Prop} {o o_tape o_frameAt o_field o_draft o_given o_low o_high o_packet o_known : Nat} {cB cI cL : ClassId} {x : zM} {v : Int32} (h : va_D A ((zwM o o_tape o_frameAt o_field o_draft o_given o_low o_high o_packet o_known cB cI cL x).set 0 (o, .inr (8, ([.int (zM_thrown x), .ref o_tape, .int (zM_size x), .int (zM_fault x), .int (zM_faultAt x), .int (zM_frames x), .ref o_frameAt, .int (zM_framesEnd x), .ref o_field, .int (zM_dataAt x), .int (zM_dataSize x), .int (zM_secretAt x), .int (zM_ranges x), .int (zM_rangesAt x), .int (zM_at x), .int (zM_over x), .int (zM_end x), .ref o_draft, .ref o_given, .int (zM_gives x), .ref o_low, .ref o_high, .int (zM_spans x), .int (zM_packets x), .ref o_packet, .ref o_known] : List Value).set 2 (.int v))))) : va_D A (zwM o o_tape o_frameAt o_field o_draft o_given o_low o_high o_packet o_known cB cI cL (zM_size' x v)) := zq_M_size ▸ h
theorem zq_M_fault {o o_tape o_frameAt o_field o_draft o_given o_low o_high o_packet o_known : Nat} {cB cI cL : ClassId} {x : zM} {v : Int32} : (zwM o o_tape o_frameAt o_field o_draft o_given o_low o_high o_packet o_known cB cI cL x).set 0 (o, .inr (8, ([.int (zM_thrown x), .ref o_tape, .int (zM_size x), .int (zM_fault x), .int (zM_faultAt x), .int (zM_frames x), .ref o_frameAt, .int (zM_framesEnd x), .ref o_field, .int (zM_dataAt x), .int (zM_dataSize x), .int (zM_secretAt x), .int (zM_ranges x), .int (zM_rangesAt x), .int (zM_at x), .int (zM_over x), .int (zM_end x), .ref o_draft, .ref o_given, .int (zM_gives x), .ref o_low, .ref o_high, .int (zM_spans x), .int (zM_packets x), .ref o_packet, .ref o_known] : List Value).set 3 (.int v))) = zwM o o_tape o_frameAt o_field o_draft o_given o_low o_high o_packet o_known cB cI cL (zM_fault' x v) := rfl
theorem zp_M_fault {D : va_G} {cl : List vw_C} {H : Heap} {o o_tape o_frameAt o_field o_draft o_given o_low o_high o_packet o_known : Nat} {cB cI cL : ClassId} {x : zM} {v : Int32} (h : va_P D cl ((zwM o o_tape o_frameAt o_field o_draft o_given o_low o_high o_packet o_known cB cI cL x).set 0 (o, .inr (8, ([.int (zM_thrown x), .ref o_tape, .int (zM_size x), .int (zM_fault x), .int (zM_faultAt x), .int (zM_frames x), .ref o_frameAt, .int (zM_framesEnd x), .ref o_field, .int (zM_dataAt x), .int (zM_dataSize x), .int (zM_secretAt x), .int (zM_ranges x), .int (zM_rangesAt x), .int (zM_at x), .int (zM_over x), .int (zM_end x), .ref o_draft, .ref o_given, .int (zM_gives x), .ref o_low, .ref o_high, .int (zM_spans x), .int (zM_packets x), .ref o_packet, .ref o_known] : List Value).set 3 (.int v)))) H) : va_P D cl (zwM o o_tape o_frameAt o_field o_draft o_given o_low o_high o_packet o_known cB cI cL (zM_fault' x v)) H := zq_M_fault ▸ h
theorem zd_M_fault {A : Nat → Prop} {o o_tape o_frameAt o_field o_draft o_given o_low o_high o_packet o_known : Nat} {cB cI cL : ClassId} {x : zM} {v : Int32} (h : va_D A ((zwM o o_tape o_frameAt o_field o_draft o_given o_low o_high o_packet o_known cB cI cL x).set 0 (o, .inr (8, ([.int (zM_thrown x), .ref o_tape, .int (zM_size x), .int (zM_fault x), .int (zM_faultAt x), .int (zM_frames x), .ref o_frameAt, .int (zM_framesEnd x), .ref o_field, .int (zM_dataAt x), .int (zM_dataSize x), .int (zM_secretAt x), .int (zM_ranges x), .int (zM_rangesAt x), .int (zM_at x), .int (zM_over x), .int (zM_end x), .ref o_draft, .ref o_given, .int (zM_gives x), .ref o_low, .ref o_high, .int (zM_spans x), .int (zM_packets x), .ref o_packet, .ref o_known] : List Value).set 3 (.int v))))) : va_D A (zwM o o_tape o_frameAt o_field o_draft o_given o_low o_high o_packet o_known cB cI cL (zM_fault' x v)) := zq_M_fault ▸ h
theorem zq_M_faultAt {o o_tape o_frameAt o_field o_draft o_given o_low o_high o_packet o_known : Nat} {cB cI cL : ClassId} {x : zM} {v : Int32} : (zwM o o_tape o_frameAt o_field o_draft o_given o_low o_high o_packet o_known cB cI cL x).set 0 (o, .inr (8, ([.int (zM_thrown x), .ref o_tape, .int (zM_size x), .int (zM_fault x), .int (zM_faultAt x), .int (zM_frames x), .ref o_frameAt, .int (zM_framesEnd x), .ref o_field, .int (zM_dataAt x), .int (zM_dataSize x), .int (zM_secretAt x), .int (zM_ranges x), .int (zM_rangesAt x), .int (zM_at x), .int (zM_over x), .int (zM_end x), .ref o_draft, .ref o_given, .int (zM_gives x), .ref o_low, .ref o_high, .int (zM_spans x), .int (zM_packets x), .ref o_packet, .ref o_known] : List Value).set 4 (.int v))) = zwM o o_tape o_frameAt o_field o_draft o_given o_low o_high o_packet o_known cB cI cL (zM_faultAt' x v) := rfl
theorem zp_M_faultAt {D : va_G} {cl : List vw_C} {H : Heap} {o o_tape o_frameAt o_field o_draft o_given o_low o_high o_packet o_known : Nat} {cB cI cL : ClassId} {x : zM} {v : Int32} (h : va_P D cl ((zwM o o_tape o_frameAt o_field o_draft o_given o_low o_high o_packet o_known cB cI cL x).set 0 (o, .inr (8, ([.int (zM_thrown x), .ref o_tape, .int (zM_size x), .int (zM_fault x), .int (zM_faultAt x), .int (zM_frames x), .ref o_frameAt, .int (zM_framesEnd x), .ref o_field, .int (zM_dataAt x), .int (zM_dataSize x), .int (zM_secretAt x), .int (zM_ranges x), .int (zM_rangesAt x), .int (zM_at x), .int (zM_over x), .int (zM_end x), .ref o_draft, .ref o_given, .int (zM_gives x), .ref o_low, .ref o_high, .int (zM_spans x), .int (zM_packets x), .ref o_packet, .ref o_known] : List Value).set 4 (.int v)))) H) : va_P D cl (zwM o o_tape o_frameAt o_field o_draft o_given o_low o_high o_packet o_known cB cI cL (zM_faultAt' x v)) H := zq_M_faultAt ▸ h
theorem zd_M_faultAt {A : Nat → Prop} {o o_tape o_frameAt o_field o_draft o_given o_low o_high o_packet o_known : Nat} {cB cI cL : ClassId} {x : zM} {v : Int32} (h : va_D A ((zwM o o_tape o_frameAt o_field o_draft o_given o_low o_high o_packet o_known cB cI cL x).set 0 (o, .inr (8, ([.int (zM_thrown x), .ref o_tape, .int (zM_size x), .int (zM_fault x), .int (zM_faultAt x), .int (zM_frames x), .ref o_frameAt, .int (zM_framesEnd x), .ref o_field, .int (zM_dataAt x), .int (zM_dataSize x), .int (zM_secretAt x), .int (zM_ranges x), .int (zM_rangesAt x), .int (zM_at x), .int (zM_over x), .int (zM_end x), .ref o_draft, .ref o_given, .int (zM_gives x), .ref o_low, .ref o_high, .int (zM_spans x), .int (zM_packets x), .ref o_packet, .ref o_known] : List Value).set 4 (.int v))))) : va_D A (zwM o o_tape o_frameAt o_field o_draft o_given o_low o_high o_packet o_known cB cI cL (zM_faultAt' x v)) := zq_M_faultAt ▸ h
theorem zq_M_frames {o o_tape o_frameAt o_field o_draft o_given o_low o_high o_packet o_known : Nat} {cB cI cL : ClassId} {x : zM} {v : Int32} : (zwM o o_tape o_frameAt o_field o_draft o_given o_low o_high o_packet o_known cB cI cL x).set 0 (o, .inr (8, ([.int (zM_thrown x), .ref o_tape, .int (zM_size x), .int (zM_fault x), .int (zM_faultAt x), .int (zM_frames x), .ref o_frameAt, .int (zM_framesEnd x), .ref o_field, .int (zM_dataAt x), .int (zM_dataSize x), .int (zM_secretAt x), .int (zM_ranges x), .int (zM_rangesAt x), .int (zM_at x), .int (zM_over x), .int (zM_end x), .ref o_draft, .ref o_given, .int (zM_gives x), .ref o_low, .ref o_high, .int (zM_spans x), .int (zM_packets x), .ref o_packet, .ref o_known] : List Value).set 5 (.int v))) = zwM o o_tape o_frameAt o_field o_draft o_given o_low o_high o_packet o_known cB cI cL (zM_frames' x v) := rfl
theorem zp_M_frames {D : va_G} {cl : List vw_C} {H : Heap} {o o_tape o_frameAt o_field o_draft o_given o_low o_high o_packet o_known : Nat} {cB cI cL : ClassId} {x : zM} {v : Int32} (h : va_P D cl ((zwM o o_tape o_frameAt o_field o_draft o_given o_low o_high o_packet o_known cB cI cL x).set 0 (o, .inr (8, ([.int (zM_thrown x), .ref o_tape, .int (zM_size x), .int (zM_fault x), .int (zM_faultAt x), .int (zM_frames x), .ref o_frameAt, .int (zM_framesEnd x), .ref o_field, .int (zM_dataAt x), .int (zM_dataSize x), .int (zM_secretAt x), .int (zM_ranges x), .int (zM_rangesAt x), .int (zM_at x), .int (zM_over x), .int (zM_end x), .ref o_draft, .ref o_given, .int (zM_gives x), .ref o_low, .ref o_high, .int (zM_spans x), .int (zM_packets x), .ref o_packet, .ref o_known] : List Value).set 5 (.int v)))) H) : va_P D cl (zwM o o_tape o_frameAt o_field o_draft o_given o_low o_high o_packet o_known cB cI cL (zM_frames' x v)) H := zq_M_frames ▸ h
theorem zd_M_frames {A : Nat → Prop} {o o_tape o_frameAt o_field o_draft o_given o_low o_high o_packet o_known : Nat} {cB cI cL : ClassId} {x : zM} {v : Int32} (h : va_D A ((zwM o o_tape o_frameAt o_field o_draft o_given o_low o_high o_packet o_known cB cI cL x).set 0 (o, .inr (8, ([.int (zM_thrown x), .ref o_tape, .int (zM_size x), .int (zM_fault x), .int (zM_faultAt x), .int (zM_frames x), .ref o_frameAt, .int (zM_framesEnd x), .ref o_field, .int (zM_dataAt x), .int (zM_dataSize x), .int (zM_secretAt x), .int (zM_ranges x), .int (zM_rangesAt x), .int (zM_at x), .int (zM_over x), .int (zM_end x), .ref o_draft, .ref o_given, .int (zM_gives x), .ref o_low, .ref o_high, .int (zM_spans x), .int (zM_packets x), .ref o_packet, .ref o_known] : List Value).set 5 (.int v))))) : va_D A (zwM o o_tape o_frameAt o_field o_draft o_given o_low o_high o_packet o_known cB cI cL (zM_frames' x v)) := zq_M_frames ▸ h
theorem zq_M_frameAt {o o_tape o_frameAt o_field o_draft o_given o_low o_high o_packet o_known : Nat} {cB cI cL : ClassId} {x : zM} {v : (Nat → Int32)} : (zwM o o_tape o_frameAt o_field o_draft o_given o_low o_high o_packet o_known cB cI cL x).set 2 (o_frameAt, .inl (cI, 65536, .inl v)) = zwM o o_tape o_frameAt o_field o_draft o_given o_low o_high o_packet o_known cB cI cL (zM_frameAt' x v) := rfl
theorem zp_M_frameAt {D : va_G} {cl : List vw_C} {H : Heap} {o o_tape o_frameAt o_field o_draft o_given o_low o_high o_packet o_known : Nat} {cB cI cL : ClassId} {x : zM} {v : (Nat → Int32)} (h : va_P D cl ((zwM o o_tape o_frameAt o_field o_draft o_given o_low o_high o_packet o_known cB cI cL x).set 2 (o_frameAt, .inl (cI, 65536, .inl v))) H) : va_P D cl (zwM o o_tape o_frameAt o_field o_draft o_given o_low o_high o_packet o_known cB cI cL (zM_frameAt' x v)) H := zq_M_frameAt ▸ h
theorem zd_M_frameAt {A : Nat → Prop} {o o_tape o_frameAt o_field o_draft o_given o_low o_high o_packet o_known : Nat} {cB cI cL : ClassId} {x : zM} {v : (Nat → Int32)} (h : va_D A ((zwM o o_tape o_frameAt o_field o_draft o_given o_low o_high o_packet o_known cB cI cL x).set 2 (o_frameAt, .inl (cI, 65536, .inl v)))) : va_D A (zwM o o_tape o_frameAt o_field o_draft o_given o_low o_high o_packet o_known cB cI cL (zM_frameAt' x v)) := zq_M_frameAt ▸ h
theorem zq_M_framesEnd {o o_tape o_frameAt o_field o_draft o_given o_low o_high o_packet o_known : Nat} {cB cI cL : ClassId} {x : zM} {v : Int32} : (zwM o o_tape o_frameAt o_field o_draft o_given o_low o_high o_packet o_known cB cI cL x).set 0 (o, .inr (8, ([.int (zM_thrown x), .ref o_tape, .int (zM_size x), .int (zM_fault x), .int (zM_faultAt x), .int (zM_frames x), .ref o_frameAt, .int (zM_framesEnd x), .ref o_field, .int (zM_dataAt x), .int (zM_dataSize x), .int (zM_secretAt x), .int (zM_ranges x), .int (zM_rangesAt x), .int (zM_at x), .int (zM_over x), .int (zM_end x), .ref o_draft, .ref o_given, .int (zM_gives x), .ref o_low, .ref o_high, .int (zM_spans x), .int (zM_packets x), .ref o_packet, .ref o_known] : List Value).set 7 (.int v))) = zwM o o_tape o_frameAt o_field o_draft o_given o_low o_high o_packet o_known cB cI cL (zM_framesEnd' x v) := rfl
theorem zp_M_framesEnd {D : va_G} {cl : List vw_C} {H : Heap} {o o_tape o_frameAt o_field o_draft o_given o_low o_high o_packet o_known : Nat} {cB cI cL : ClassId} {x : zM} {v : Int32} (h : va_P D cl ((zwM o o_tape o_frameAt o_field o_draft o_given o_low o_high o_packet o_known cB cI cL x).set 0 (o, .inr (8, ([.int (zM_thrown x), .ref o_tape, .int (zM_size x), .int (zM_fault x), .int (zM_faultAt x), .int (zM_frames x), .ref o_frameAt, .int (zM_framesEnd x), .ref o_field, .int (zM_dataAt x), .int (zM_dataSize x), .int (zM_secretAt x), .int (zM_ranges x), .int (zM_rangesAt x), .int (zM_at x), .int (zM_over x), .int (zM_end x), .ref o_draft, .ref o_given, .int (zM_gives x), .ref o_low, .ref o_high, .int (zM_spans x), .int (zM_packets x), .ref o_packet, .ref o_known] : List Value).set 7 (.int v)))) H) : va_P D cl (zwM o o_tape o_frameAt o_field o_draft o_given o_low o_high o_packet o_known cB cI cL (zM_framesEnd' x v)) H := zq_M_framesEnd ▸ h
theorem zd_M_framesEnd {A : Nat → Prop} {o o_tape o_frameAt o_field o_draft o_given o_low o_high o_packet o_known : Nat} {cB cI cL : ClassId} {x : zM} {v : Int32} (h : va_D A ((zwM o o_tape o_frameAt o_field o_draft o_given o_low o_high o_packet o_known cB cI cL x).set 0 (o, .inr (8, ([.int (zM_thrown x), .ref o_tape, .int (zM_size x), .int (zM_fault x), .int (zM_faultAt x), .int (zM_frames x), .ref o_frameAt, .int (zM_framesEnd x), .ref o_field, .int (zM_dataAt x), .int (zM_dataSize x), .int (zM_secretAt x), .int (zM_ranges x), .int (zM_rangesAt x), .int (zM_at x), .int (zM_over x), .int (zM_end x), .ref o_draft, .ref o_given, .int (zM_gives x), .ref o_low, .ref o_high, .int (zM_spans x), .int (zM_packets x), .ref o_packet, .ref o_known] : List Value).set 7 (.int v))))) : va_D A (zwM o o_tape o_frameAt o_field o_draft o_given o_low o_high o_packet o_known cB cI cL (zM_framesEnd' x v)) := zq_M_framesEnd ▸ h
theorem zq_M_field {o o_tape o_frameAt o_field o_draft o_given o_low o_high o_packet o_known : Nat} {cB cI cL : ClassId} {x : zM} {v : (Nat → Int64)} : (zwM o o_tape o_frameAt o_field o_draft o_given o_low o_high o_packet o_known cB cI cL x).set 3 (o_field, .inl (cL, 12, .inr (.inl v))) = zwM o o_tape o_frameAt o_field o_draft o_given o_low o_high o_packet o_known cB cI cL (zM_field' x v) := rfl
theorem zp_M_field {D : va_G} {cl : List vw_C} {H : Heap} {o o_tape o_frameAt o_field o_draft o_given o_low o_high o_packet o_known : Nat} {cB cI cL : ClassId} {x : zM} {v : (Nat → Int64)} (h : va_P D cl ((zwM o o_tape o_frameAt o_field o_draft o_given o_low o_high o_packet o_known cB cI cL x).set 3 (o_field, .inl (cL, 12, .inr (.inl v)))) H) : va_P D cl (zwM o o_tape o_frameAt o_field o_draft o_given o_low o_high o_packet o_known cB cI cL (zM_field' x v)) H := zq_M_field ▸ h
theorem zd_M_field {A : Nat → Prop} {o o_tape o_frameAt o_field o_draft o_given o_low o_high o_packet o_known : Nat} {cB cI cL : ClassId} {x : zM} {v : (Nat → Int64)} (h : va_D A ((zwM o o_tape o_frameAt o_field o_draft o_given o_low o_high o_packet o_known cB cI cL x).set 3 (o_field, .inl (cL, 12, .inr (.inl v))))) : va_D A (zwM o o_tape o_frameAt o_field o_draft o_given o_low o_high o_packet o_known cB cI cL (zM_field' x v)) := zq_M_field ▸ h
theorem zq_M_dataAt {o o_tape o_frameAt o_field o_draft o_given o_low o_high o_packet o_known : Nat} {cB cI cL : ClassId} {x : zM} {v : Int32} : (zwM o o_tape o_frameAt o_field o_draft o_given o_low o_high o_packet o_known cB cI cL x).set 0 (o, .inr (8, ([.int (zM_thrown x), .ref o_tape, .int (zM_size x), .int (zM_fault x), .int (zM_faultAt x), .int (zM_frames x), .ref o_frameAt, .int (zM_framesEnd x), .ref o_field, .int (zM_dataAt x), .int (zM_dataSize x), .int (zM_secretAt x), .int (zM_ranges x), .int (zM_rangesAt x), .int (zM_at x), .int (zM_over x), .int (zM_end x), .ref o_draft, .ref o_given, .int (zM_gives x), .ref o_low, .ref o_high, .int (zM_spans x), .int (zM_packets x), .ref o_packet, .ref o_known] : List Value).set 9 (.int v))) = zwM o o_tape o_frameAt o_field o_draft o_given o_low o_high o_packet o_known cB cI cL (zM_dataAt' x v) := rfl
theorem zp_M_dataAt {D : va_G} {cl : List vw_C} {H : Heap} {o o_tape o_frameAt o_field o_draft o_given o_low o_high o_packet o_known : Nat} {cB cI cL : ClassId} {x : zM} {v : Int32} (h : va_P D cl ((zwM o o_tape o_frameAt o_field o_draft o_given o_low o_high o_packet o_known cB cI cL x).set 0 (o, .inr (8, ([.int (zM_thrown x), .ref o_tape, .int (zM_size x), .int (zM_fault x), .int (zM_faultAt x), .int (zM_frames x), .ref o_frameAt, .int (zM_framesEnd x), .ref o_field, .int (zM_dataAt x), .int (zM_dataSize x), .int (zM_secretAt x), .int (zM_ranges x), .int (zM_rangesAt x), .int (zM_at x), .int (zM_over x), .int (zM_end x), .ref o_draft, .ref o_given, .int (zM_gives x), .ref o_low, .ref o_high, .int (zM_spans x), .int (zM_packets x), .ref o_packet, .ref o_known] : List Value).set 9 (.int v)))) H) : va_P D cl (zwM o o_tape o_frameAt o_field o_draft o_given o_low o_high o_packet o_known cB cI cL (zM_dataAt' x v)) H := zq_M_dataAt ▸ h
theorem zd_M_dataAt {A : Nat → Prop} {o o_tape o_frameAt o_field o_draft o_given o_low o_high o_packet o_known : Nat} {cB cI cL : ClassId} {x : zM} {v : Int32} (h : va_D A ((zwM o o_tape o_frameAt o_field o_draft o_given o_low o_high o_packet o_known cB cI cL x).set 0 (o, .inr (8, ([.int (zM_thrown x), .ref o_tape, .int (zM_size x), .int (zM_fault x), .int (zM_faultAt x), .int (zM_frames x), .ref o_frameAt, .int (zM_framesEnd x), .ref o_field, .int (zM_dataAt x), .int (zM_dataSize x), .int (zM_secretAt x), .int (zM_ranges x), .int (zM_rangesAt x), .int (zM_at x), .int (zM_over x), .int (zM_end x), .ref o_draft, .ref o_given, .int (zM_gives x), .ref o_low, .ref o_high, .int (zM_spans x), .int (zM_packets x), .ref o_packet, .ref o_known] : List Value).set 9 (.int v))))) : va_D A (zwM o o_tape o_frameAt o_field o_draft o_given o_low o_high o_packet o_known cB cI cL (zM_dataAt' x v)) := zq_M_dataAt ▸ h
theorem zq_M_dataSize {o o_tape o_frameAt o_field o_draft o_given o_low o_high o_packet o_known : Nat} {cB cI cL : ClassId} {x : zM} {v : Int32} : (zwM o o_tape o_frameAt o_field o_draft o_given o_low o_high o_packet o_known cB cI cL x).set 0 (o, .inr (8, ([.int (zM_thrown x), .ref o_tape, .int (zM_size x), .int (zM_fault x), .int (zM_faultAt x), .int (zM_frames x), .ref o_frameAt, .int (zM_framesEnd x), .ref o_field, .int (zM_dataAt x), .int (zM_dataSize x), .int (zM_secretAt x), .int (zM_ranges x), .int (zM_rangesAt x), .int (zM_at x), .int (zM_over x), .int (zM_end x), .ref o_draft, .ref o_given, .int (zM_gives x), .ref o_low, .ref o_high, .int (zM_spans x), .int (zM_packets x), .ref o_packet, .ref o_known] : List Value).set 10 (.int v))) = zwM o o_tape o_frameAt o_field o_draft o_given o_low o_high o_packet o_known cB cI cL (zM_dataSize' x v) := rfl
theorem zp_M_dataSize {D : va_G} {cl : List vw_C} {H : Heap} {o o_tape o_frameAt o_field o_draft o_given o_low o_high o_packet o_known : Nat} {cB cI cL : ClassId} {x : zM} {v : Int32} (h : va_P D cl ((zwM o o_tape o_frameAt o_field o_draft o_given o_low o_high o_packet o_known cB cI cL x).set 0 (o, .inr (8, ([.int (zM_thrown x), .ref o_tape, .int (zM_size x), .int (zM_fault x), .int (zM_faultAt x), .int (zM_frames x), .ref o_frameAt, .int (zM_framesEnd x), .ref o_field, .int (zM_dataAt x), .int (zM_dataSize x), .int (zM_secretAt x), .int (zM_ranges x), .int (zM_rangesAt x), .int (zM_at x), .int (zM_over x), .int (zM_end x), .ref o_draft, .ref o_given, .int (zM_gives x), .ref o_low, .ref o_high, .int (zM_spans x), .int (zM_packets x), .ref o_packet, .ref o_known] : List Value).set 10 (.int v)))) H) : va_P D cl (zwM o o_tape o_frameAt o_field o_draft o_given o_low o_high o_packet o_known cB cI cL (zM_dataSize' x v)) H := zq_M_dataSize ▸ h
theorem zd_M_dataSize {A : Nat → Prop} {o o_tape o_frameAt o_field o_draft o_given o_low o_high o_packet o_known : Nat} {cB cI cL : ClassId} {x : zM} {v : Int32} (h : va_D A ((zwM o o_tape o_frameAt o_field o_draft o_given o_low o_high o_packet o_known cB cI cL x).set 0 (o, .inr (8, ([.int (zM_thrown x), .ref o_tape, .int (zM_size x), .int (zM_fault x), .int (zM_faultAt x), .int (zM_frames x), .ref o_frameAt, .int (zM_framesEnd x), .ref o_field, .int (zM_dataAt x), .int (zM_dataSize x), .int (zM_secretAt x), .int (zM_ranges x), .int (zM_rangesAt x), .int (zM_at x), .int (zM_over x), .int (zM_end x), .ref o_draft, .ref o_given, .int (zM_gives x), .ref o_low, .ref o_high, .int (zM_spans x), .int (zM_packets x), .ref o_packet, .ref o_known] : List Value).set 10 (.int v))))) : va_D A (zwM o o_tape o_frameAt o_field o_draft o_given o_low o_high o_packet o_known cB cI cL (zM_dataSize' x v)) := zq_M_dataSize ▸ h
theorem zq_M_secretAt {o o_tape o_frameAt o_field o_draft o_given o_low o_high o_packet o_known : Nat} {cB cI cL : ClassId} {x : zM} {v : Int32} : (zwM o o_tape o_frameAt o_field o_draft o_given o_low o_high o_packet o_known cB cI cL x).set 0 (o, .inr (8, ([.int (zM_thrown x), .ref o_tape, .int (zM_size x), .int (zM_fault x), .int (zM_faultAt x), .int (zM_frames x), .ref o_frameAt, .int (zM_framesEnd x), .ref o_field, .int (zM_dataAt x), .int (zM_dataSize x), .int (zM_secretAt x), .int (zM_ranges x), .int (zM_rangesAt x), .int (zM_at x), .int (zM_over x), .int (zM_end x), .ref o_draft, .ref o_given, .int (zM_gives x), .ref o_low, .ref o_high, .int (zM_spans x), .int (zM_packets x), .ref o_packet, .ref o_known] : List Value).set 11 (.int v))) = zwM o o_tape o_frameAt o_field o_draft o_given o_low o_high o_packet o_known cB cI cL (zM_secretAt' x v) := rfl
theorem zp_M_secretAt {D : va_G} {cl : List vw_C} {H : Heap} {o o_tape o_frameAt o_field o_draft o_given o_low o_high o_packet o_known : Nat} {cB cI cL : ClassId} {x : zM} {v : Int32} (h : va_P D cl ((zwM o o_tape o_frameAt o_field o_draft o_given o_low o_high o_packet o_known cB cI cL x).set 0 (o, .inr (8, ([.int (zM_thrown x), .ref o_tape, .int (zM_size x), .int (zM_fault x), .int (zM_faultAt x), .int (zM_frames x), .ref o_frameAt, .int (zM_framesEnd x), .ref o_field, .int (zM_dataAt x), .int (zM_dataSize x), .int (zM_secretAt x), .int (zM_ranges x), .int (zM_rangesAt x), .int (zM_at x), .int (zM_over x), .int (zM_end x), .ref o_draft, .ref o_given, .int (zM_gives x), .ref o_low, .ref o_high, .int (zM_spans x), .int (zM_packets x), .ref o_packet, .ref o_known] : List Value).set 11 (.int v)))) H) : va_P D cl (zwM o o_tape o_frameAt o_field o_draft o_given o_low o_high o_packet o_known cB cI cL (zM_secretAt' x v)) H := zq_M_secretAt ▸ h
theorem zd_M_secretAt {A : Nat → Prop} {o o_tape o_frameAt o_field o_draft o_given o_low o_high o_packet o_known : Nat} {cB cI cL : ClassId} {x : zM} {v : Int32} (h : va_D A ((zwM o o_tape o_frameAt o_field o_draft o_given o_low o_high o_packet o_known cB cI cL x).set 0 (o, .inr (8, ([.int (zM_thrown x), .ref o_tape, .int (zM_size x), .int (zM_fault x), .int (zM_faultAt x), .int (zM_frames x), .ref o_frameAt, .int (zM_framesEnd x), .ref o_field, .int (zM_dataAt x), .int (zM_dataSize x), .int (zM_secretAt x), .int (zM_ranges x), .int (zM_rangesAt x), .int (zM_at x), .int (zM_over x), .int (zM_end x), .ref o_draft, .ref o_given, .int (zM_gives x), .ref o_low, .ref o_high, .int (zM_spans x), .int (zM_packets x), .ref o_packet, .ref o_known] : List Value).set 11 (.int v))))) : va_D A (zwM o o_tape o_frameAt o_field o_draft o_given o_low o_high o_packet o_known cB cI cL (zM_secretAt' x v)) := zq_M_secretAt ▸ h
theorem zq_M_ranges {o o_tape o_frameAt o_field o_draft o_given o_low o_high o_packet o_known : Nat} {cB cI cL : ClassId} {x : zM} {v : Int32} : (zwM o o_tape o_frameAt o_field o_draft o_given o_low o_high o_packet o_known cB cI cL x).set 0 (o, .inr (8, ([.int (zM_thrown x), .ref o_tape, .int (zM_size x), .int (zM_fault x), .int (zM_faultAt x), .int (zM_frames x), .ref o_frameAt, .int (zM_framesEnd x), .ref o_field, .int (zM_dataAt x), .int (zM_dataSize x), .int (zM_secretAt x), .int (zM_ranges x), .int (zM_rangesAt x), .int (zM_at x), .int (zM_over x), .int (zM_end x), .ref o_draft, .ref o_given, .int (zM_gives x), .ref o_low, .ref o_high, .int (zM_spans x), .int (zM_packets x), .ref o_packet, .ref o_known] : List Value).set 12 (.int v))) = zwM o o_tape o_frameAt o_field o_draft o_given o_low o_high o_packet o_known cB cI cL (zM_ranges' x v) := rfl
theorem zp_M_ranges {D : va_G} {cl : List vw_C} {H : Heap} {o o_tape o_frameAt o_field o_draft o_given o_low o_high o_packet o_known : Nat} {cB cI cL : ClassId} {x : zM} {v : Int32} (h : va_P D cl ((zwM o o_tape o_frameAt o_field o_draft o_given o_low o_high o_packet o_known cB cI cL x).set 0 (o, .inr (8, ([.int (zM_thrown x), .ref o_tape, .int (zM_size x), .int (zM_fault x), .int (zM_faultAt x), .int (zM_frames x), .ref o_frameAt, .int (zM_framesEnd x), .ref o_field, .int (zM_dataAt x), .int (zM_dataSize x), .int (zM_secretAt x), .int (zM_ranges x), .int (zM_rangesAt x), .int (zM_at x), .int (zM_over x), .int (zM_end x), .ref o_draft, .ref o_given, .int (zM_gives x), .ref o_low, .ref o_high, .int (zM_spans x), .int (zM_packets x), .ref o_packet, .ref o_known] : List Value).set 12 (.int v)))) H) : va_P D cl (zwM o o_tape o_frameAt o_field o_draft o_given o_low o_high o_packet o_known cB cI cL (zM_ranges' x v)) H := zq_M_ranges ▸ h
theorem zd_M_ranges {A : Nat → Prop} {o o_tape o_frameAt o_field o_draft o_given o_low o_high o_packet o_known : Nat} {cB cI cL : ClassId} {x : zM} {v : Int32} (h : va_D A ((zwM o o_tape o_frameAt o_field o_draft o_given o_low o_high o_packet o_known cB cI cL x).set 0 (o, .inr (8, ([.int (zM_thrown x), .ref o_tape, .int (zM_size x), .int (zM_fault x), .int (zM_faultAt x), .int (zM_frames x), .ref o_frameAt, .int (zM_framesEnd x), .ref o_field, .int (zM_dataAt x), .int (zM_dataSize x), .int (zM_secretAt x), .int (zM_ranges x), .int (zM_rangesAt x), .int (zM_at x), .int (zM_over x), .int (zM_end x), .ref o_draft, .ref o_given, .int (zM_gives x), .ref o_low, .ref o_high, .int (zM_spans x), .int (zM_packets x), .ref o_packet, .ref o_known] : List Value).set 12 (.int v))))) : va_D A (zwM o o_tape o_frameAt o_field o_draft o_given o_low o_high o_packet o_known cB cI cL (zM_ranges' x v)) := zq_M_ranges ▸ h
theorem zq_M_rangesAt {o o_tape o_frameAt o_field o_draft o_given o_low o_high o_packet o_known : Nat} {cB cI cL : ClassId} {x : zM} {v : Int32} : (zwM o o_tape o_frameAt o_field o_draft o_given o_low o_high o_packet o_known cB cI cL x).set 0 (o, .inr (8, ([.int (zM_thrown x), .ref o_tape, .int (zM_size x), .int (zM_fault x), .int (zM_faultAt x), .int (zM_frames x), .ref o_frameAt, .int (zM_framesEnd x), .ref o_field, .int (zM_dataAt x), .int (zM_dataSize x), .int (zM_secretAt x), .int (zM_ranges x), .int (zM_rangesAt x), .int (zM_at x), .int (zM_over x), .int (zM_end x), .ref o_draft, .ref o_given, .int (zM_gives x), .ref o_low, .ref o_high, .int (zM_spans x), .int (zM_packets x), .ref o_packet, .ref o_known] : List Value).set 13 (.int v))) = zwM o o_tape o_frameAt o_field o_draft o_given o_low o_high o_packet o_known cB cI cL (zM_rangesAt' x v) := rfl
theorem zp_M_rangesAt {D : va_G} {cl : List vw_C} {H : Heap} {o o_tape o_frameAt o_field o_draft o_given o_low o_high o_packet o_known : Nat} {cB cI cL : ClassId} {x : zM} {v : Int32} (h : va_P D cl ((zwM o o_tape o_frameAt o_field o_draft o_given o_low o_high o_packet o_known cB cI cL x).set 0 (o, .inr (8, ([.int (zM_thrown x), .ref o_tape, .int (zM_size x), .int (zM_fault x), .int (zM_faultAt x), .int (zM_frames x), .ref o_frameAt, .int (zM_framesEnd x), .ref o_field, .int (zM_dataAt x), .int (zM_dataSize x), .int (zM_secretAt x), .int (zM_ranges x), .int (zM_rangesAt x), .int (zM_at x), .int (zM_over x), .int (zM_end x), .ref o_draft, .ref o_given, .int (zM_gives x), .ref o_low, .ref o_high, .int (zM_spans x), .int (zM_packets x), .ref o_packet, .ref o_known] : List Value).set 13 (.int v)))) H) : va_P D cl (zwM o o_tape o_frameAt o_field o_draft o_given o_low o_high o_packet o_known cB cI cL (zM_rangesAt' x v)) H := zq_M_rangesAt ▸ h
theorem zd_M_rangesAt {A : Nat → Prop} {o o_tape o_frameAt o_field o_draft o_given o_low o_high o_packet o_known : Nat} {cB cI cL : ClassId} {x : zM} {v : Int32} (h : va_D A ((zwM o o_tape o_frameAt o_field o_draft o_given o_low o_high o_packet o_known cB cI cL x).set 0 (o, .inr (8, ([.int (zM_thrown x), .ref o_tape, .int (zM_size x), .int (zM_fault x), .int (zM_faultAt x), .int (zM_frames x), .ref o_frameAt, .int (zM_framesEnd x), .ref o_field, .int (zM_dataAt x), .int (zM_dataSize x), .int (zM_secretAt x), .int (zM_ranges x), .int (zM_rangesAt x), .int (zM_at x), .int (zM_over x), .int (zM_end x), .ref o_draft, .ref o_given, .int (zM_gives x), .ref o_low, .ref o_high, .int (zM_spans x), .int (zM_packets x), .ref o_packet, .ref o_known] : List Value).set 13 (.int v))))) : va_D A (zwM o o_tape o_frameAt o_field o_draft o_given o_low o_high o_packet o_known cB cI cL (zM_rangesAt' x v)) := zq_M_rangesAt ▸ h
theorem zq_M_at {o o_tape o_frameAt o_field o_draft o_given o_low o_high o_packet o_known : Nat} {cB cI cL : ClassId} {x : zM} {v : Int32} : (zwM o o_tape o_frameAt o_field o_draft o_given o_low o_high o_packet o_known cB cI cL x).set 0 (o, .inr (8, ([.int (zM_thrown x), .ref o_tape, .int (zM_size x), .int (zM_fault x), .int (zM_faultAt x), .int (zM_frames x), .ref o_frameAt, .int (zM_framesEnd x), .ref o_field, .int (zM_dataAt x), .int (zM_dataSize x), .int (zM_secretAt x), .int (zM_ranges x), .int (zM_rangesAt x), .int (zM_at x), .int (zM_over x), .int (zM_end x), .ref o_draft, .ref o_given, .int (zM_gives x), .ref o_low, .ref o_high, .int (zM_spans x), .int (zM_packets x), .ref o_packet, .ref o_known] : List Value).set 14 (.int v))) = zwM o o_tape o_frameAt o_field o_draft o_given o_low o_high o_packet o_known cB cI cL (zM_at' x v) := rfl
theorem zp_M_at {D : va_G} {cl : List vw_C} {H : Heap} {o o_tape o_frameAt o_field o_draft o_given o_low o_high o_packet o_known : Nat} {cB cI cL : ClassId} {x : zM} {v : Int32} (h : va_P D cl ((zwM o o_tape o_frameAt o_field o_draft o_given o_low o_high o_packet o_known cB cI cL x).set 0 (o, .inr (8, ([.int (zM_thrown x), .ref o_tape, .int (zM_size x), .int (zM_fault x), .int (zM_faultAt x), .int (zM_frames x), .ref o_frameAt, .int (zM_framesEnd x), .ref o_field, .int (zM_dataAt x), .int (zM_dataSize x), .int (zM_secretAt x), .int (zM_ranges x), .int (zM_rangesAt x), .int (zM_at x), .int (zM_over x), .int (zM_end x), .ref o_draft, .ref o_given, .int (zM_gives x), .ref o_low, .ref o_high, .int (zM_spans x), .int (zM_packets x), .ref o_packet, .ref o_known] : List Value).set 14 (.int v)))) H) : va_P D cl (zwM o o_tape o_frameAt o_field o_draft o_given o_low o_high o_packet o_known cB cI cL (zM_at' x v)) H := zq_M_at ▸ h
theorem zd_M_at {A : Nat → Prop} {o o_tape o_frameAt o_field o_draft o_given o_low o_high o_packet o_known : Nat} {cB cI cL : ClassId} {x : zM} {v : Int32} (h : va_D A ((zwM o o_tape o_frameAt o_field o_draft o_given o_low o_high o_packet o_known cB cI cL x).set 0 (o, .inr (8, ([.int (zM_thrown x), .ref o_tape, .int (zM_size x), .int (zM_fault x), .int (zM_faultAt x), .int (zM_frames x), .ref o_frameAt, .int (zM_framesEnd x), .ref o_field, .int (zM_dataAt x), .int (zM_dataSize x), .int (zM_secretAt x), .int (zM_ranges x), .int (zM_rangesAt x), .int (zM_at x), .int (zM_over x), .int (zM_end x), .ref o_draft, .ref o_given, .int (zM_gives x), .ref o_low, .ref o_high, .int (zM_spans x), .int (zM_packets x), .ref o_packet, .ref o_known] : List Value).set 14 (.int v))))) : va_D A (zwM o o_tape o_frameAt o_field o_draft o_given o_low o_high o_packet o_known cB cI cL (zM_at' x v)) := zq_M_at ▸ h
theorem zq_M_over {o o_tape o_frameAt o_field o_draft o_given o_low o_high o_packet o_known : Nat} {cB cI cL : ClassId} {x : zM} {v : Int32} : (zwM o o_tape o_frameAt o_field o_draft o_given o_low o_high o_packet o_known cB cI cL x).set 0 (o, .inr (8, ([.int (zM_thrown x), .ref o_tape, .int (zM_size x), .int (zM_fault x), .int (zM_faultAt x), .int (zM_frames x), .ref o_frameAt, .int (zM_framesEnd x), .ref o_field, .int (zM_dataAt x), .int (zM_dataSize x), .int (zM_secretAt x), .int (zM_ranges x), .int (zM_rangesAt x), .int (zM_at x), .int (zM_over x), .int (zM_end x), .ref o_draft, .ref o_given, .int (zM_gives x), .ref o_low, .ref o_high, .int (zM_spans x), .int (zM_packets x), .ref o_packet, .ref o_known] : List Value).set 15 (.int v))) = zwM o o_tape o_frameAt o_field o_draft o_given o_low o_high o_packet o_known cB cI cL (zM_over' x v) := rfl
theorem zp_M_over {D : va_G} {cl : List vw_C} {H : Heap} {o o_tape o_frameAt o_field o_draft o_given o_low o_high o_packet o_known : Nat} {cB cI cL : ClassId} {x : zM} {v : Int32} (h : va_P D cl ((zwM o o_tape o_frameAt o_field o_draft o_given o_low o_high o_packet o_known cB cI cL x).set 0 (o, .inr (8, ([.int (zM_thrown x), .ref o_tape, .int (zM_size x), .int (zM_fault x), .int (zM_faultAt x), .int (zM_frames x), .ref o_frameAt, .int (zM_framesEnd x), .ref o_field, .int (zM_dataAt x), .int (zM_dataSize x), .int (zM_secretAt x), .int (zM_ranges x), .int (zM_rangesAt x), .int (zM_at x), .int (zM_over x), .int (zM_end x), .ref o_draft, .ref o_given, .int (zM_gives x), .ref o_low, .ref o_high, .int (zM_spans x), .int (zM_packets x), .ref o_packet, .ref o_known] : List Value).set 15 (.int v)))) H) : va_P D cl (zwM o o_tape o_frameAt o_field o_draft o_given o_low o_high o_packet o_known cB cI cL (zM_over' x v)) H := zq_M_over ▸ h
theorem zd_M_over {A : Nat → Prop} {o o_tape o_frameAt o_field o_draft o_given o_low o_high o_packet o_known : Nat} {cB cI cL : ClassId} {x : zM} {v : Int32} (h : va_D A ((zwM o o_tape o_frameAt o_field o_draft o_given o_low o_high o_packet o_known cB cI cL x).set 0 (o, .inr (8, ([.int (zM_thrown x), .ref o_tape, .int (zM_size x), .int (zM_fault x), .int (zM_faultAt x), .int (zM_frames x), .ref o_frameAt, .int (zM_framesEnd x), .ref o_field, .int (zM_dataAt x), .int (zM_dataSize x), .int (zM_secretAt x), .int (zM_ranges x), .int (zM_rangesAt x), .int (zM_at x), .int (zM_over x), .int (zM_end x), .ref o_draft, .ref o_given, .int (zM_gives x), .ref o_low, .ref o_high, .int (zM_spans x), .int (zM_packets x), .ref o_packet, .ref o_known] : List Value).set 15 (.int v))))) : va_D A (zwM o o_tape o_frameAt o_field o_draft o_given o_low o_high o_packet o_known cB cI cL (zM_over' x v)) := zq_M_over ▸ h
theorem zq_M_end {o o_tape o_frameAt o_field o_draft o_given o_low o_high o_packet o_known : Nat} {cB cI cL : ClassId} {x : zM} {v : Int32} : (zwM o o_tape o_frameAt o_field o_draft o_given o_low o_high o_packet o_known cB cI cL x).set 0 (o, .inr (8, ([.int (zM_thrown x), .ref o_tape, .int (zM_size x), .int (zM_fault x), .int (zM_faultAt x), .int (zM_frames x), .ref o_frameAt, .int (zM_framesEnd x), .ref o_field, .int (zM_dataAt x), .int (zM_dataSize x), .int (zM_secretAt x), .int (zM_ranges x), .int (zM_rangesAt x), .int (zM_at x), .int (zM_over x), .int (zM_end x), .ref o_draft, .ref o_given, .int (zM_gives x), .ref o_low, .ref o_high, .int (zM_spans x), .int (zM_packets x), .ref o_packet, .ref o_known] : List Value).set 16 (.int v))) = zwM o o_tape o_frameAt o_field o_draft o_given o_low o_high o_packet o_known cB cI cL (zM_end' x v) := rfl
theorem zp_M_end {D : va_G} {cl : List vw_C} {H : Heap} {o o_tape o_frameAt o_field o_draft o_given o_low o_high o_packet o_known : Nat} {cB cI cL : ClassId} {x : zM} {v : Int32} (h : va_P D cl ((zwM o o_tape o_frameAt o_field o_draft o_given o_low o_high o_packet o_known cB cI cL x).set 0 (o, .inr (8, ([.int (zM_thrown x), .ref o_tape, .int (zM_size x), .int (zM_fault x), .int (zM_faultAt x), .int (zM_frames x), .ref o_frameAt, .int (zM_framesEnd x), .ref o_field, .int (zM_dataAt x), .int (zM_dataSize x), .int (zM_secretAt x), .int (zM_ranges x), .int (zM_rangesAt x), .int (zM_at x), .int (zM_over x), .int (zM_end x), .ref o_draft, .ref o_given, .int (zM_gives x), .ref o_low, .ref o_high, .int (zM_spans x), .int (zM_packets x), .ref o_packet, .ref o_known] : List Value).set 16 (.int v)))) H) : va_P D cl (zwM o o_tape o_frameAt o_field o_draft o_given o_low o_high o_packet o_known cB cI cL (zM_end' x v)) H := zq_M_end ▸ h
theorem zd_M_end {A : Nat → Prop} {o o_tape o_frameAt o_field o_draft o_given o_low o_high o_packet o_known : Nat} {cB cI cL : ClassId} {x : zM} {v : Int32} (h : va_D A ((zwM o o_tape o_frameAt o_field o_draft o_given o_low o_high o_packet o_known cB cI cL x).set 0 (o, .inr (8, ([.int (zM_thrown x), .ref o_tape, .int (zM_size x), .int (zM_fault x), .int (zM_faultAt x), .int (zM_frames x), .ref o_frameAt, .int (zM_framesEnd x), .ref o_field, .int (zM_dataAt x), .int (zM_dataSize x), .int (zM_secretAt x), .int (zM_ranges x), .int (zM_rangesAt x), .int (zM_at x), .int (zM_over x), .int (zM_end x), .ref o_draft, .ref o_given, .int (zM_gives x), .ref o_low, .ref o_high, .int (zM_spans x), .int (zM_packets x), .ref o_packet, .ref o_known] : List Value).set 16 (.int v))))) : va_D A (zwM o o_tape o_frameAt o_field o_draft o_given o_low o_high o_packet o_known cB cI cL (zM_end' x v)) := zq_M_end ▸ h
theorem zq_M_draft {o o_tape o_frameAt o_field o_draft o_given o_low o_high o_packet o_known : Nat} {cB cI cL : ClassId} {x : zM} {v : (Nat → Int64)} : (zwM o o_tape o_frameAt o_field o_draft o_given o_low o_high o_packet o_known cB cI cL x).set 4 (o_draft, .inl (cL, 12, .inr (.inl v))) = zwM o o_tape o_frameAt o_field o_draft o_given o_low o_high o_packet o_known cB cI cL (zM_draft' x v) := rfl
theorem zp_M_draft {D : va_G} {cl : List vw_C} {H : Heap} {o o_tape o_frameAt o_field o_draft o_given o_low o_high o_packet o_known : Nat} {cB cI cL : ClassId} {x : zM} {v : (Nat → Int64)} (h : va_P D cl ((zwM o o_tape o_frameAt o_field o_draft o_given o_low o_high o_packet o_known cB cI cL x).set 4 (o_draft, .inl (cL, 12, .inr (.inl v)))) H) : va_P D cl (zwM o o_tape o_frameAt o_field o_draft o_given o_low o_high o_packet o_known cB cI cL (zM_draft' x v)) H := zq_M_draft ▸ h
theorem zd_M_draft {A : Nat → Prop} {o o_tape o_frameAt o_field o_draft o_given o_low o_high o_packet o_known : Nat} {cB cI cL : ClassId} {x : zM} {v : (Nat → Int64)} (h : va_D A ((zwM o o_tape o_frameAt o_field o_draft o_given o_low o_high o_packet o_known cB cI cL x).set 4 (o_draft, .inl (cL, 12, .inr (.inl v))))) : va_D A (zwM o o_tape o_frameAt o_field o_draft o_given o_low o_high o_packet o_known cB cI cL (zM_draft' x v)) := zq_M_draft ▸ h
theorem zq_M_given {o o_tape o_frameAt o_field o_draft o_given o_low o_high o_packet o_known : Nat} {cB cI cL : ClassId} {x : zM} {v : (Nat → Int32)} : (zwM o o_tape o_frameAt o_field o_draft o_given o_low o_high o_packet o_known cB cI cL x).set 5 (o_given, .inl (cB, 2000, .inl v)) = zwM o o_tape o_frameAt o_field o_draft o_given o_low o_high o_packet o_known cB cI cL (zM_given' x v) := rfl
theorem zp_M_given {D : va_G} {cl : List vw_C} {H : Heap} {o o_tape o_frameAt o_field o_draft o_given o_low o_high o_packet o_known : Nat} {cB cI cL : ClassId} {x : zM} {v : (Nat → Int32)} (h : va_P D cl ((zwM o o_tape o_frameAt o_field o_draft o_given o_low o_high o_packet o_known cB cI cL x).set 5 (o_given, .inl (cB, 2000, .inl v))) H) : va_P D cl (zwM o o_tape o_frameAt o_field o_draft o_given o_low o_high o_packet o_known cB cI cL (zM_given' x v)) H := zq_M_given ▸ h
theorem zd_M_given {A : Nat → Prop} {o o_tape o_frameAt o_field o_draft o_given o_low o_high o_packet o_known : Nat} {cB cI cL : ClassId} {x : zM} {v : (Nat → Int32)} (h : va_D A ((zwM o o_tape o_frameAt o_field o_draft o_given o_low o_high o_packet o_known cB cI cL x).set 5 (o_given, .inl (cB, 2000, .inl v)))) : va_D A (zwM o o_tape o_frameAt o_field o_draft o_given o_low o_high o_packet o_known cB cI cL (zM_given' x v)) := zq_M_given ▸ h
theorem zq_M_gives {o o_tape o_frameAt o_field o_draft o_given o_low o_high o_packet o_known : Nat} {cB cI cL : ClassId} {x : zM} {v : Int32} : (zwM o o_tape o_frameAt o_field o_draft o_given o_low o_high o_packet o_known cB cI cL x).set 0 (o, .inr (8, ([.int (zM_thrown x), .ref o_tape, .int (zM_size x), .int (zM_fault x), .int (zM_faultAt x), .int (zM_frames x), .ref o_frameAt, .int (zM_framesEnd x), .ref o_field, .int (zM_dataAt x), .int (zM_dataSize x), .int (zM_secretAt x), .int (zM_ranges x), .int (zM_rangesAt x), .int (zM_at x), .int (zM_over x), .int (zM_end x), .ref o_draft, .ref o_given, .int (zM_gives x), .ref o_low, .ref o_high, .int (zM_spans x), .int (zM_packets x), .ref o_packet, .ref o_known] : List Value).set 19 (.int v))) = zwM o o_tape o_frameAt o_field o_draft o_given o_low o_high o_packet o_known cB cI cL (zM_gives' x v) := rfl
theorem zp_M_gives {D : va_G} {cl : List vw_C} {H : Heap} {o o_tape o_frameAt o_field o_draft o_given o_low o_high o_packet o_known : Nat} {cB cI cL : ClassId} {x : zM} {v : Int32} (h : va_P D cl ((zwM o o_tape o_frameAt o_field o_draft o_given o_low o_high o_packet o_known cB cI cL x).set 0 (o, .inr (8, ([.int (zM_thrown x), .ref o_tape, .int (zM_size x), .int (zM_fault x), .int (zM_faultAt x), .int (zM_frames x), .ref o_frameAt, .int (zM_framesEnd x), .ref o_field, .int (zM_dataAt x), .int (zM_dataSize x), .int (zM_secretAt x), .int (zM_ranges x), .int (zM_rangesAt x), .int (zM_at x), .int (zM_over x), .int (zM_end x), .ref o_draft, .ref o_given, .int (zM_gives x), .ref o_low, .ref o_high, .int (zM_spans x), .int (zM_packets x), .ref o_packet, .ref o_known] : List Value).set 19 (.int v)))) H) : va_P D cl (zwM o o_tape o_frameAt o_field o_draft o_given o_low o_high o_packet o_known cB cI cL (zM_gives' x v)) H := zq_M_gives ▸ h
theorem zd_M_gives {A : Nat → Prop} {o o_tape o_frameAt o_field o_draft o_given o_low o_high o_packet o_known : Nat} {cB cI cL : ClassId} {x : zM} {v : Int32} (h : va_D A ((zwM o o_tape o_frameAt o_field o_draft o_given o_low o_high o_packet o_known cB cI cL x).set 0 (o, .inr (8, ([.int (zM_thrown x), .ref o_tape, .int (zM_size x), .int (zM_fault x), .int (zM_faultAt x), .int (zM_frames x), .ref o_frameAt, .int (zM_framesEnd x), .ref o_field, .int (zM_dataAt x), .int (zM_dataSize x), .int (zM_secretAt x), .int (zM_ranges x), .int (zM_rangesAt x), .int (zM_at x), .int (zM_over x), .int (zM_end x), .ref o_draft, .ref o_given, .int (zM_gives x), .ref o_low, .ref o_high, .int (zM_spans x), .int (zM_packets x), .ref o_packet, .ref o_known] : List Value).set 19 (.int v))))) : va_D A (zwM o o_tape o_frameAt o_field o_draft o_given o_low o_high o_packet o_known cB cI cL (zM_gives' x v)) := zq_M_gives ▸ h
theorem zq_M_low {o o_tape o_frameAt o_field o_draft o_given o_low o_high o_packet o_known : Nat} {cB cI cL : ClassId} {x : zM} {v : (Nat → Int64)} : (zwM o o_tape o_frameAt o_field o_draft o_given o_low o_high o_packet o_known cB cI cL x).set 6 (o_low, .inl (cL, 500, .inr (.inl v))) = zwM o o_tape o_frameAt o_field o_draft o_given o_low o_high o_packet o_known cB cI cL (zM_low' x v) := rfl
theorem zp_M_low {D : va_G} {cl : List vw_C} {H : Heap} {o o_tape o_frameAt o_field o_draft o_given o_low o_high o_packet o_known : Nat} {cB cI cL : ClassId} {x : zM} {v : (Nat → Int64)} (h : va_P D cl ((zwM o o_tape o_frameAt o_field o_draft o_given o_low o_high o_packet o_known cB cI cL x).set 6 (o_low, .inl (cL, 500, .inr (.inl v)))) H) : va_P D cl (zwM o o_tape o_frameAt o_field o_draft o_given o_low o_high o_packet o_known cB cI cL (zM_low' x v)) H := zq_M_low ▸ h
theorem zd_M_low {A : Nat → Prop} {o o_tape o_frameAt o_field o_draft o_given o_low o_high o_packet o_known : Nat} {cB cI cL : ClassId} {x : zM} {v : (Nat → Int64)} (h : va_D A ((zwM o o_tape o_frameAt o_field o_draft o_given o_low o_high o_packet o_known cB cI cL x).set 6 (o_low, .inl (cL, 500, .inr (.inl v))))) : va_D A (zwM o o_tape o_frameAt o_field o_draft o_given o_low o_high o_packet o_known cB cI cL (zM_low' x v)) := zq_M_low ▸ h
theorem zq_M_high {o o_tape o_frameAt o_field o_draft o_given o_low o_high o_packet o_known : Nat} {cB cI cL : ClassId} {x : zM} {v : (Nat → Int64)} : (zwM o o_tape o_frameAt o_field o_draft o_given o_low o_high o_packet o_known cB cI cL x).set 7 (o_high, .inl (cL, 500, .inr (.inl v))) = zwM o o_tape o_frameAt o_field o_draft o_given o_low o_high o_packet o_known cB cI cL (zM_high' x v) := rfl
theorem zp_M_high {D : va_G} {cl : List vw_C} {H : Heap} {o o_tape o_frameAt o_field o_draft o_given o_low o_high o_packet o_known : Nat} {cB cI cL : ClassId} {x : zM} {v : (Nat → Int64)} (h : va_P D cl ((zwM o o_tape o_frameAt o_field o_draft o_given o_low o_high o_packet o_known cB cI cL x).set 7 (o_high, .inl (cL, 500, .inr (.inl v)))) H) : va_P D cl (zwM o o_tape o_frameAt o_field o_draft o_given o_low o_high o_packet o_known cB cI cL (zM_high' x v)) H := zq_M_high ▸ h
theorem zd_M_high {A : Nat → Prop} {o o_tape o_frameAt o_field o_draft o_given o_low o_high o_packet o_known : Nat} {cB cI cL : ClassId} {x : zM} {v : (Nat → Int64)} (h : va_D A ((zwM o o_tape o_frameAt o_field o_draft o_given o_low o_high o_packet o_known cB cI cL x).set 7 (o_high, .inl (cL, 500, .inr (.inl v))))) : va_D A (zwM o o_tape o_frameAt o_field o_draft o_given o_low o_high o_packet o_known cB cI cL (zM_high' x v)) := zq_M_high ▸ h
theorem zq_M_spans {o o_tape o_frameAt o_field o_draft o_given o_low o_high o_packet o_known : Nat} {cB cI cL : ClassId} {x : zM} {v : Int32} : (zwM o o_tape o_frameAt o_field o_draft o_given o_low o_high o_packet o_known cB cI cL x).set 0 (o, .inr (8, ([.int (zM_thrown x), .ref o_tape, .int (zM_size x), .int (zM_fault x), .int (zM_faultAt x), .int (zM_frames x), .ref o_frameAt, .int (zM_framesEnd x), .ref o_field, .int (zM_dataAt x), .int (zM_dataSize x), .int (zM_secretAt x), .int (zM_ranges x), .int (zM_rangesAt x), .int (zM_at x), .int (zM_over x), .int (zM_end x), .ref o_draft, .ref o_given, .int (zM_gives x), .ref o_low, .ref o_high, .int (zM_spans x), .int (zM_packets x), .ref o_packet, .ref o_known] : List Value).set 22 (.int v))) = zwM o o_tape o_frameAt o_field o_draft o_given o_low o_high o_packet o_known cB cI cL (zM_spans' x v) := rfl
theorem zp_M_spans {D : va_G} {cl : List vw_C} {H : Heap} {o o_tape o_frameAt o_field o_draft o_given o_low o_high o_packet o_known : Nat} {cB cI cL : ClassId} {x : zM} {v : Int32} (h : va_P D cl ((zwM o o_tape o_frameAt o_field o_draft o_given o_low o_high o_packet o_known cB cI cL x).set 0 (o, .inr (8, ([.int (zM_thrown x), .ref o_tape, .int (zM_size x), .int (zM_fault x), .int (zM_faultAt x), .int (zM_frames x), .ref o_frameAt, .int (zM_framesEnd x), .ref o_field, .int (zM_dataAt x), .int (zM_dataSize x), .int (zM_secretAt x), .int (zM_ranges x), .int (zM_rangesAt x), .int (zM_at x), .int (zM_over x), .int (zM_end x), .ref o_draft, .ref o_given, .int (zM_gives x), .ref o_low, .ref o_high, .int (zM_spans x), .int (zM_packets x), .ref o_packet, .ref o_known] : List Value).set 22 (.int v)))) H) : va_P D cl (zwM o o_tape o_frameAt o_field o_draft o_given o_low o_high o_packet o_known cB cI cL (zM_spans' x v)) H := zq_M_spans ▸ h
theorem zd_M_spans {A : Nat → Prop} {o o_tape o_frameAt o_field o_draft o_given o_low o_high o_packet o_known : Nat} {cB cI cL : ClassId} {x : zM} {v : Int32} (h : va_D A ((zwM o o_tape o_frameAt o_field o_draft o_given o_low o_high o_packet o_known cB cI cL x).set 0 (o, .inr (8, ([.int (zM_thrown x), .ref o_tape, .int (zM_size x), .int (zM_fault x), .int (zM_faultAt x), .int (zM_frames x), .ref o_frameAt, .int (zM_framesEnd x), .ref o_field, .int (zM_dataAt x), .int (zM_dataSize x), .int (zM_secretAt x), .int (zM_ranges x), .int (zM_rangesAt x), .int (zM_at x), .int (zM_over x), .int (zM_end x), .ref o_draft, .ref o_given, .int (zM_gives x), .ref o_low, .ref o_high, .int (zM_spans x), .int (zM_packets x), .ref o_packet, .ref o_known] : List Value).set 22 (.int v))))) : va_D A (zwM o o_tape o_frameAt o_field o_draft o_given o_low o_high o_packet o_known cB cI cL (zM_spans' x v)) := zq_M_spans ▸ h
theorem zq_M_packets {o o_tape o_frameAt o_field o_draft o_given o_low o_high o_packet o_known : Nat} {cB cI cL : ClassId} {x : zM} {v : Int32} : (zwM o o_tape o_frameAt o_field o_draft o_given o_low o_high o_packet o_known cB cI cL x).set 0 (o, .inr (8, ([.int (zM_thrown x), .ref o_tape, .int (zM_size x), .int (zM_fault x), .int (zM_faultAt x), .int (zM_frames x), .ref o_frameAt, .int (zM_framesEnd x), .ref o_field, .int (zM_dataAt x), .int (zM_dataSize x), .int (zM_secretAt x), .int (zM_ranges x), .int (zM_rangesAt x), .int (zM_at x), .int (zM_over x), .int (zM_end x), .ref o_draft, .ref o_given, .int (zM_gives x), .ref o_low, .ref o_high, .int (zM_spans x), .int (zM_packets x), .ref o_packet, .ref o_known] : List Value).set 23 (.int v))) = zwM o o_tape o_frameAt o_field o_draft o_given o_low o_high o_packet o_known cB cI cL (zM_packets' x v) := rfl
theorem zp_M_packets {D : va_G} {cl : List vw_C} {H : Heap} {o o_tape o_frameAt o_field o_draft o_given o_low o_high o_packet o_known : Nat} {cB cI cL : ClassId} {x : zM} {v : Int32} (h : va_P D cl ((zwM o o_tape o_frameAt o_field o_draft o_given o_low o_high o_packet o_known cB cI cL x).set 0 (o, .inr (8, ([.int (zM_thrown x), .ref o_tape, .int (zM_size x), .int (zM_fault x), .int (zM_faultAt x), .int (zM_frames x), .ref o_frameAt, .int (zM_framesEnd x), .ref o_field, .int (zM_dataAt x), .int (zM_dataSize x), .int (zM_secretAt x), .int (zM_ranges x), .int (zM_rangesAt x), .int (zM_at x), .int (zM_over x), .int (zM_end x), .ref o_draft, .ref o_given, .int (zM_gives x), .ref o_low, .ref o_high, .int (zM_spans x), .int (zM_packets x), .ref o_packet, .ref o_known] : List Value).set 23 (.int v)))) H) : va_P D cl (zwM o o_tape o_frameAt o_field o_draft o_given o_low o_high o_packet o_known cB cI cL (zM_packets' x v)) H := zq_M_packets ▸ h
theorem zd_M_packets {A : Nat → Prop} {o o_tape o_frameAt o_field o_draft o_given o_low o_high o_packet o_known : Nat} {cB cI cL : ClassId} {x : zM} {v : Int32} (h : va_D A ((zwM o o_tape o_frameAt o_field o_draft o_given o_low o_high o_packet o_known cB cI cL x).set 0 (o, .inr (8, ([.int (zM_thrown x), .ref o_tape, .int (zM_size x), .int (zM_fault x), .int (zM_faultAt x), .int (zM_frames x), .ref o_frameAt, .int (zM_framesEnd x), .ref o_field, .int (zM_dataAt x), .int (zM_dataSize x), .int (zM_secretAt x), .int (zM_ranges x), .int (zM_rangesAt x), .int (zM_at x), .int (zM_over x), .int (zM_end x), .ref o_draft, .ref o_given, .int (zM_gives x), .ref o_low, .ref o_high, .int (zM_spans x), .int (zM_packets x), .ref o_packet, .ref o_known] : List Value).set 23 (.int v))))) : va_D A (zwM o o_tape o_frameAt o_field o_draft o_given o_low o_high o_packet o_known cB cI cL (zM_packets' x v)) := zq_M_packets ▸ h
theorem zq_M_packet {o o_tape o_frameAt o_field o_draft o_given o_low o_high o_packet o_known : Nat} {cB cI cL : ClassId} {x : zM} {v : (Nat → Int32)} : (zwM o o_tape o_frameAt o_field o_draft o_given o_low o_high o_packet o_known cB cI cL x).set 8 (o_packet, .inl (cI, 49152, .inl v)) = zwM o o_tape o_frameAt o_field o_draft o_given o_low o_high o_packet o_known cB cI cL (zM_packet' x v) := rfl
theorem zp_M_packet {D : va_G} {cl : List vw_C} {H : Heap} {o o_tape o_frameAt o_field o_draft o_given o_low o_high o_packet o_known : Nat} {cB cI cL : ClassId} {x : zM} {v : (Nat → Int32)} (h : va_P D cl ((zwM o o_tape o_frameAt o_field o_draft o_given o_low o_high o_packet o_known cB cI cL x).set 8 (o_packet, .inl (cI, 49152, .inl v))) H) : va_P D cl (zwM o o_tape o_frameAt o_field o_draft o_given o_low o_high o_packet o_known cB cI cL (zM_packet' x v)) H := zq_M_packet ▸ h
theorem zd_M_packet {A : Nat → Prop} {o o_tape o_frameAt o_field o_draft o_given o_low o_high o_packet o_known : Nat} {cB cI cL : ClassId} {x : zM} {v : (Nat → Int32)} (h : va_D A ((zwM o o_tape o_frameAt o_field o_draft o_given o_low o_high o_packet o_known cB cI cL x).set 8 (o_packet, .inl (cI, 49152, .inl v)))) : va_D A (zwM o o_tape o_frameAt o_field o_draft o_given o_low o_high o_packet o_known cB cI cL (zM_packet' x v)) := zq_M_packet ▸ h
theorem zq_M_known {o o_tape o_frameAt o_field o_draft o_given o_low o_high o_packet o_known : Nat} {cB cI cL : ClassId} {x : zM} {v : (Nat → Int64)} : (zwM o o_tape o_frameAt o_field o_draft o_given o_low o_high o_packet o_known cB cI cL x).set 9 (o_known, .inl (cL, 17, .inr (.inl v))) = zwM o o_tape o_frameAt o_field o_draft o_given o_low o_high o_packet o_known cB cI cL (zM_known' x v) := rfl
theorem zp_M_known {D : va_G} {cl : List vw_C} {H : Heap} {o o_tape o_frameAt o_field o_draft o_given o_low o_high o_packet o_known : Nat} {cB cI cL : ClassId} {x : zM} {v : (Nat → Int64)} (h : va_P D cl ((zwM o o_tape o_frameAt o_field o_draft o_given o_low o_high o_packet o_known cB cI cL x).set 9 (o_known, .inl (cL, 17, .inr (.inl v)))) H) : va_P D cl (zwM o o_tape o_frameAt o_field o_draft o_given o_low o_high o_packet o_known cB cI cL (zM_known' x v)) H := zq_M_known ▸ h
theorem zd_M_known {A : Nat → Prop} {o o_tape o_frameAt o_field o_draft o_given o_low o_high o_packet o_known : Nat} {cB cI cL : ClassId} {x : zM} {v : (Nat → Int64)} (h : va_D A ((zwM o o_tape o_frameAt o_field o_draft o_given o_low o_high o_packet o_known cB cI cL x).set 9 (o_known, .inl (cL, 17, .inr (.inl v))))) : va_D A (zwM o o_tape o_frameAt o_field o_draft o_given o_low o_high o_packet o_known cB cI cL (zM_known' x v)) := zq_M_known ▸ h
end
section
-- own rows: guards, branches, binds of the printed functions
noncomputable def zg {α : Type} (c : Prop) (x : Option α) : Option α := @ite _ c (Classical.propDecidable c) x none
theorem zgd {α : Type} {c : Prop} {x : Option α} {b : α} (h : zg c x = some b) : c ∧ x = some b := by
  unfold zg at h
  by_cases hc : c
  · rw [if_pos hc] at h; exact ⟨hc, h⟩
  · rw [if_neg hc] at h; cases h
theorem zg_t {α : Type} {c : Prop} {x : Option α} (h : c) : zg c x = x := by unfold zg; rw [if_pos h]
theorem zt {α : Type} {c : Prop} [Decidable c] {x y : Option α} {b : α} (h : (if c then x else y) = some b) (hc : c) : x = some b := by rw [if_pos hc] at h; exact h
theorem zf {α : Type} {c : Prop} [Decidable c] {x y : Option α} {b : α} (h : (if c then x else y) = some b) (hc : ¬ c) : y = some b := by rw [if_neg hc] at h; exact h
theorem zb {α β : Type} {x : Option α} {f : α → Option β} {b : β} (h : x.bind f = some b) : ∃ a, x = some a ∧ f a = some b := by
  cases x with
  | none => cases h
  | some a => exact ⟨a, rfl, h⟩
theorem zlook {ps : List (Int × Int)} {d k : Int} (h : ∀ q ∈ ps, q.1 ≠ k) : Op.lookupswitch.offset ps d k = d := by
  induction ps with
  | nil => rfl
  | cons q r ih =>
    obtain ⟨a, o⟩ := q
    rw [Op.lookupswitch.offset_cons, if_neg (h (a, o) List.mem_cons_self)]
    exact ih fun q hq => h q (List.mem_cons_of_mem _ hq)
theorem zne {x k : Int32} (h : ¬ x = k) : k.toInt ≠ x.toInt := fun e => h (Int32.toInt_inj.mp e.symm)
theorem zlohi {a b c d : Int} (h : ¬ (a < b ∨ c < d)) : ¬ a < b ∧ ¬ c < d := ⟨fun q => h (Or.inl q), fun q => h (Or.inr q)⟩
theorem zrng {x : Int32} {lo hi : Int} (h1 : ¬ x.toInt < lo) (h2 : ¬ hi < x.toInt) : ∃ j : Nat, j < (hi - lo).toNat + 1 ∧ x = Int32.ofInt (lo + j) := by
  refine ⟨(x.toInt - lo).toNat, by omega, ?_⟩
  have e : lo + ((x.toInt - lo).toNat : Int) = x.toInt := by omega
  rw [e, Int32.ofInt_toInt]
-- what holds of the method that is walked
def zx (p : Program) (s : State) (m : MethodId) (args : Array Value) (meth : Method) (c : Code) (R : Room) (own : String) (cc : ByteArray) (ret : Option FieldType) (nL F L : Nat) : Prop :=
  p.tables.exec = Jvm.exec ∧ c.code = cc ∧ meth.sig.returnType = ret ∧ c.maxLocals = nL ∧ s.vm.findClass own = some m.cls ∧ (∀ w ∈ ztb, w.before args s = true) ∧ meth.locks = false ∧ F ≤ R.frames ∧ L ≤ R.locals
def zw (y : MethodName) (bytes : ByteArray) (maxL : Nat) (ret : Option FieldType) : List Cond := Cond.code y bytes maxL ret :: ztb
theorem zx_of {p : Program} {l : Launch} {y : MethodName} {rm : Room} {cc : ByteArray} {maxL : Nat} {ret : Option FieldType} {e : Env} {s : State} {m : MethodId} {args : Array Value} {below : List Frame} {meth : Method} {c : Code} {s₁ : State} {F L : Nat}
    (B : BodyLoose p l y (headSpec (zw y cc maxL ret) rm) cc maxL ret e s m args below meth c s₁) (hml : c.maxLocals = maxL) (h1 : F ≤ rm.frames) (h2 : L ≤ rm.locals) : zx p s m args meth c rm y.cls cc ret maxL F L :=
  ⟨B.exec, B.bytes, B.returns, hml, findClass_of_methodNamed B.named, fun w h => atoms_spec (ws := zw y cc maxL ret) B.pre w (List.mem_cons_of_mem _ h), B.notSynchronized, h1, h2⟩
-- words on private members of a nest mate, and static arrays
def zisn : Cond → Bool
  | .fieldLinkNest .. => true
  | .methodLinkNest .. => true
  | .castable .. => true
  | .declares .. => true
  | _ => false
def zN : List Cond := lw_tbl.filter zisn
theorem zN_tab (w : Cond) (h : w ∈ zN) : w.onTables = true := by
  have h1 := (List.mem_filter.mp h).2
  cases w <;> first | rfl | (simp [zisn] at h1; done)
theorem zN_warm (w : Cond) (h : w ∈ zN) {s U : State} (hW : s.WarmedH U.vm) (hZ : va_Nw w s) : va_Nw w U := by
  have h1 := (List.mem_filter.mp h).2
  cases w <;> first | exact va_Nw.warmF hW hZ | exact va_Nw.warmM hW hZ | exact va_Nw.warmC hW hZ | exact va_Nw.warmD hW hZ | (simp [zisn] at h1; done)
theorem zmemN {w : Cond} (i : Nat) (h : lw_tbl[i]? = some w) (hg : zisn w = true) : w ∈ zN := List.mem_filter.mpr ⟨List.mem_of_getElem? h, hg⟩
def zsS : Nat → Int32 := fun j => ([0, 0, 3, 3, 7, 3, 10, 8, 1, 1, 9, 9, 3, 3, 11, 11, 1, 3, 1, 1, 1, 3, 1, 1, 3, 1, 0, 0, 11, 9, 0] : List Int32).getD j 0
def zsA : Nat → Int64 := fun j => ([-1, 0, -1, 65527, 0, 0, 0, 0, 0, 0, 3, 25, 0, -1, 2, -1, -1] : List Int64).getD j 0
def zsL : Nat → Int64 := fun j => ([0, 0, 16, 1200, 0, 0, 0, 0, 0, 0, 0, 0, 0, 41, 2, 0, 0] : List Int64).getD j 0
def zsM : Nat → Int64 := fun j => ([20, 4611686018427387903, 16, 4611686018427387903, 4611686018427387903, 4611686018427387903, 4611686018427387903, 4611686018427387903, 1152921504606846976, 1152921504606846976, 20, 16383, 0, 61, 4611686018427387903, 20, 20] : List Int64).getD j 0
def zst (C n d : String) (ty : FieldType) (N : Nat) (f : Nat → Value) (A : Nat → Prop) (U : State) : Prop := ∃ t : Nat, va_Z C n d (.ref t) A U U.heap ∧ va_T ty t N f A U U.heap
theorem zst.moved {C n d : String} {ty : FieldType} {N : Nat} {f : Nat → Value} {A B : Nat → Prop} {s U : State} {H : Heap} {locs : List Loc} (h : zst C n d ty N f A s) (hS : va_S A s.heap H locs) (hB : ∀ q, B q → A q) (hH : U.heap = H) (hvm : s.vm.Alike U.vm) : zst C n d ty N f B U := by
  obtain ⟨t, h1, h2⟩ := h
  exact ⟨t, by rw [hH]; exact (va_Z.moved hvm (h1.kept hS.2.1)).narrow hB, by rw [hH]; exact (va_T.moved hvm (h2.kept hS.2.1)).narrow hB⟩
theorem zst.same {C n d : String} {ty : FieldType} {N : Nat} {f : Nat → Value} {A : Nat → Prop} {s U : State} (h : zst C n d ty N f A s) (hH : U.heap = s.heap) (hvm : s.vm = U.vm) : zst C n d ty N f A U := by
  obtain ⟨t, h1, h2⟩ := h
  have ha : s.vm.Alike U.vm := by rw [hvm]; exact Vm.Alike.refl _
  exact ⟨t, by rw [hH]; exact va_Z.moved ha h1, by rw [hH]; exact va_T.moved ha h2⟩
theorem zls_moved {C n d : String} {A : Nat → Prop} {s U : State} {H : Heap} {locs : List Loc} (hl : (Cond.laysStatic C n d).before #[] s = true) (hZ : va_Zq C n d A s s.heap) (hS : va_S A s.heap H locs) (hH : U.heap = H) (hvm : s.vm.Alike U.vm) : (Cond.laysStatic C n d).before #[] U = true := by
  obtain ⟨c, k, i, f, a, cell, hc, hi, hst, ha, hcell, hs, hcls, hlt, hty⟩ := Cond.laysStatic_spec hl
  have hna : ¬ A a := by
    have key : ∀ v, va_Z C n d v A s s.heap → ¬ A a := by
      intro v h
      obtain ⟨cf, kf, fi, f', a', cell', h1, -, -, h4, -, -, -, hn⟩ := h
      cases Option.some.inj (hi.symm.trans h1)
      cases Option.some.inj (ha.symm.trans h4)
      exact hn
    rcases hZ with h | ⟨t, h⟩
    · exact key _ h
    · exact key _ h
  have hcell' : H[a]? = some cell := by rw [hS.2.1 a (Array.getElem?_eq_some_iff.mp hcell).1 hna]; exact hcell
  have h2 : (Cond.laysStatic C n d).before #[] ({ s with heap := H } : State) = true := Cond.laysStatic_of (s := ({ s with heap := H } : State)) hc hi hst ha hcell' hs hcls hlt hty
  have h3 := Cond.laysStatic_setVm (s := ({ s with heap := H } : State)) hvm h2
  simp only [Cond.before, Cond.holds, Cond.value] at h3 ⊢
  rw [hH]
  exact h3
theorem zls_same {C n d : String} {s U : State} (hl : (Cond.laysStatic C n d).before #[] s = true) (hH : U.heap = s.heap) (hvm : s.vm = U.vm) : (Cond.laysStatic C n d).before #[] U = true := by
  have h3 := Cond.laysStatic_setVm (s := s) (vm' := U.vm) (by rw [hvm]; exact Vm.Alike.refl _) hl
  simp only [Cond.before, Cond.holds, Cond.value] at h3 ⊢
  rw [hH]
  exact h3
def zstat (A : Nat → Prop) (U : State) : Prop :=
  zst "WireCodec" "SHAPES" "[I" .int 31 (fun j => .int (zsS j)) A U ∧ zst "WireCodec$Parameters" "ABSENT" "[J" .long 17 (fun j => .long (zsA j)) A U ∧ zst "WireCodec$Parameters" "LEAST" "[J" .long 17 (fun j => .long (zsL j)) A U ∧ zst "WireCodec$Parameters" "MOST" "[J" .long 17 (fun j => .long (zsM j)) A U ∧
  va_Zq Bundle.tN "UNASSIGNED_STACK" Bundle.steD A U U.heap ∧ va_Zq Bundle.tN "SUPPRESSED_SENTINEL" Bundle.listD A U U.heap ∧
  (Cond.laysStatic Bundle.tN "UNASSIGNED_STACK" Bundle.steD).before #[] U = true ∧ (Cond.laysStatic Bundle.tN "SUPPRESSED_SENTINEL" Bundle.listD).before #[] U = true
theorem zstat_moved {A B : Nat → Prop} {s U : State} {H : Heap} {locs : List Loc} (h : zstat A s) (hS : va_S A s.heap H locs) (hB : ∀ q, B q → A q) (hH : U.heap = H) (hW : s.WarmedH U.vm) : zstat B U :=
  ⟨h.1.moved hS hB hH hW.alike, h.2.1.moved hS hB hH hW.alike, h.2.2.1.moved hS hB hH hW.alike, h.2.2.2.1.moved hS hB hH hW.alike,
    by rw [hH]; exact (va_Zq.moved hW.alike (h.2.2.2.2.1.kept hS.2.1)).narrow hB, by rw [hH]; exact (va_Zq.moved hW.alike (h.2.2.2.2.2.1.kept hS.2.1)).narrow hB,
    zls_moved h.2.2.2.2.2.2.1 h.2.2.2.2.1 hS hH hW.alike, zls_moved h.2.2.2.2.2.2.2 h.2.2.2.2.2.1 hS hH hW.alike⟩
theorem zstat_same {A : Nat → Prop} {s U : State} (h : zstat A s) (hH : U.heap = s.heap) (hvm : s.vm = U.vm) : zstat A U := by
  have ha : s.vm.Alike U.vm := by rw [hvm]; exact Vm.Alike.refl _
  exact ⟨h.1.same hH hvm, h.2.1.same hH hvm, h.2.2.1.same hH hvm, h.2.2.2.1.same hH hvm, by rw [hH]; exact va_Zq.moved ha h.2.2.2.2.1, by rw [hH]; exact va_Zq.moved ha h.2.2.2.2.2.1, zls_same h.2.2.2.2.2.2.1 hH hvm, zls_same h.2.2.2.2.2.2.2 hH hvm⟩
-- what holds of the tables and of what was there at the start
def zk (dC : Nat → ClassId) (dI : Nat → Nat → Nat) (cB cI cL : ClassId) (A : Nat → Prop) (U : State) : Prop :=
  va_K (dC, dI) zcl [(cB, .byte), (cI, .int), (cL, .long)] U ∧ (∀ w ∈ zN, va_Nw w U) ∧ zstat A U ∧ ∀ q ∈ zSt, ∃ a, vk_R q.1 q.2.1 q.2.2 a U
theorem zk.moved {dC : Nat → ClassId} {dI : Nat → Nat → Nat} {cB cI cL : ClassId} {A B : Nat → Prop} {s U : State} {H : Heap} {locs : List Loc} (h : zk dC dI cB cI cL A s) (hS : va_S A s.heap H locs) (hB : ∀ q, B q → A q) (hH : U.heap = H) (hW : s.WarmedH U.vm) : zk dC dI cB cI cL B U :=
  ⟨va_K.moved hW.alike h.1, fun w hw => zN_warm w hw hW (h.2.1 w hw), zstat_moved h.2.2.1 hS hB hH hW, fun q hq => by obtain ⟨a, ha⟩ := h.2.2.2 q hq; exact ⟨a, ha.warm hW⟩⟩
def zpre (dC : Nat → ClassId) (dI : Nat → Nat → Nat) (cB cI cL : ClassId) (sz : Nat) (w : va_W) : State → Prop := fun U =>
  U.heap.size = sz ∧ va_P (dC, dI) zcl w U.heap ∧ zk dC dI cB cI cL (va_A w sz) U ∧ va_D (fun _ => True) w
theorem zpre_blind {dC : Nat → ClassId} {dI : Nat → Nat → Nat} {cB cI cL : ClassId} {sz : Nat} {w : va_W} {av : List Value} : FrameBlind (va_Pc av (zpre dC dI cB cI cL sz w)) := fun a' U g mk h =>
  ⟨h.1, h.2.1, h.2.2.1, ⟨va_K.moved (u := U) (U := U.calling g mk a') (Vm.Alike.refl U.vm) h.2.2.2.1.1, fun v hv => va_Nw.same (zN_tab v hv) (u := U) (U := U.calling g mk a') rfl (h.2.2.2.1.2.1 v hv), zstat_same h.2.2.2.1.2.2.1 rfl rfl, fun q hq => by obtain ⟨a, ha⟩ := h.2.2.2.1.2.2.2 q hq; exact ⟨a, vk_R.same (u := U) (U := U.calling g mk a') rfl ha⟩⟩, h.2.2.2.2⟩
def zy (y : MethodName) (bytes : ByteArray) (maxL : Nat) (ret : Option FieldType) (n : Nat) : Prop :=
  Cond.code y bytes maxL ret ∈ ztb ∧ Cond.initialized y.cls ∈ ztb ∧ (y.cls ≠ "java/lang/invoke/MethodHandle" ∧ y.cls ≠ "java/lang/invoke/VarHandle" ∧ (parseMethodDescriptor y.desc).map (fun d => d.parameters.length) = some n)
theorem zgood {y : MethodName} {bytes : ByteArray} {maxL : Nat} {ret : Option FieldType} {n : Nat} (h : zy y bytes maxL ret n) : GoodIn ztb (zw y bytes maxL ret) := by
  intro w hw
  rcases List.mem_cons.mp hw with rfl | hw
  · exact ⟨h.1, Or.inl rfl⟩
  · exact ⟨hw, ztbl_ok w hw⟩
section ZR
variable {p : Program} {l : Launch} {e : Env} {R : Room} {s : State} {m : MethodId} {args : Array Value} {below : List Frame} {meth : Method} {c : Code} {H : Heap} {locs : List Loc} {cells slots : Nat} {Q : State → Prop}
variable {dC : Nat → ClassId} {dI : Nat → Nat → Nat} {cB cI cL : ClassId} {A : Nat → Prop} {own : String} {cc : ByteArray} {ret0 : Option FieldType} {nL F L : Nat} {y : MethodName} {bytes : ByteArray} {maxL : Nat} {ret : Option FieldType} {rm : Room} {Qc : Array Value → State → Outcome → State → Prop} {mc ms n idx : Nat} {b : Addr} {As rest : List Value} {wc wr ws : va_W} {pc : Nat} {ls : Array Slot} {lv : List (Nat × Value)} {st0 : List Value}
theorem zpreS {av : List Value} (zz : zk dC dI cB cI cL A s) (hP : va_P (dC, dI) zcl ws H) (hD : va_D A ws) (hS : va_S A s.heap H locs) (hA : ∀ q, s.heap.size ≤ q → A q) (isC : List Nat) (hn : va_nd isC = true) (hC : isC.map (fun i => ws[i]?) = wc.map some) :
    PreS s H (va_Pc av (zpre dC dI cB cI cL H.size wc)) av := by
  have hF : ∀ q, va_A wc H.size q → A q := va_free hD hS hA isC hC
  have hPc : va_P (dC, dI) zcl wc H := hP.sub isC (by
    have h1 : isC.filterMap (fun i => ws[i]?) = (isC.map (fun i => ws[i]?)).filterMap id := by simp
    rw [h1, hC]; simp)
  have hDc : va_D A wc := hD.sub isC hn hC
  exact ⟨zpre_blind, fun U hU hW => ⟨rfl, by rw [hU], by rw [hU]; exact hPc, zz.moved hS hF hU hW, hDc.weaken (fun _ _ _ _ => trivial)⟩⟩
theorem zcb (X : zx p s m args meth c R own cc ret0 nL F L) (hy : zy y bytes maxL ret n) (hl : (Cond.methodLink own idx y).before args s = true) (hrc : rm.cells = mc) (hrs : rm.slots = ms) (hR : rm.frames + 1 ≤ R.frames ∧ 8 + (maxL + 11) + rm.locals ≤ R.locals) :
    CallB R s args own idx y bytes maxL ret (zw y bytes maxL ret) rm mc ms n :=
  callB_of n X.2.2.2.2.2.1 (zgood hy) rfl hrc hrs (X.2.2.2.2.2.1 _ hy.2.1) hl hy.2.2 hR
theorem zfix (X : zx p s m args meth c R own cc ret0 nL F L) : CallFix p m c cc nL s args ztb own := ⟨X.1, X.2.1, X.2.2.2.1, X.2.2.2.2.1, X.2.2.2.2.2.1⟩
theorem zrunV (X : zx p s m args meth c R own cc ret0 nL F L) (zz : zk dC dI cB cI cL A s) (hP : va_P (dC, dI) zcl ws H) (hD : va_D A ws) (hS : va_S A s.heap H locs) (hA : ∀ q, s.heap.size ≤ q → A q) (isC : List Nat) (hnd : va_nd isC = true) (hC : isC.map (fun i => ws[i]?) = wc.map some)
    (hM : Met l y (zw y bytes maxL ret) rm (va_Pc (.ref b :: As) (zpre dC dI cB cI cL H.size wc)) Qc mc ms (va_A wc H.size)) (hy : zy y bytes maxL ret n) (hv : Cond.instanceMethod y ∈ ztb ∧ Cond.selects y.cls y y ∈ ztb) (hl : (Cond.methodLink own idx y).before args s = true) (hls : lv_has ls nL lv)
    (hst : st0 = As.reverse ++ .ref b :: rest) (hn : As.length = n) (hdg : decode cc pc = .ok (.invokevirtual idx, 3)) (hW : 2 * (F0 m pc ls st0).monitorRoom + (rest.map fun v => v.category).sum ≤ 8) (hrc : rm.cells = mc) (hrs : rm.slots = ms) (hR : rm.frames + 1 ≤ R.frames ∧ 8 + (maxL + 11) + rm.locals ≤ R.locals) (hf : cells + mc ≤ R.cells ∧ slots + ms ≤ R.slots)
    (q0 ci : Nat) {fs : List Value} {T : u_T} {k : Nat} (he : wc[q0]? = some (b, .inr (ci, fs))) (hc : zcl[ci]? = some (y.cls, T, k)) :
    va_Run p l e R s m args below meth c H locs cells slots mc ms (F0 m pc ls st0) rest (Qc (Value.ref b :: As).toArray) (va_A wc H.size) := by
  have hp := zpreS (av := .ref b :: As) zz hP hD hS hA isC hnd hC
  have hPc : va_P (dC, dI) zcl wc H := hP.sub isC (by
    have h1 : isC.filterMap (fun i => ws[i]?) = (isC.map (fun i => ws[i]?)).filterMap id := by simp
    rw [h1, hC]; simp)
  exact va_runV (C := y.cls) (zfix X) hM ⟨zcb X hy hl hrc hrs hR, X.2.2.2.2.2.1 _ hv.1, X.2.2.2.2.2.1 _ hv.2⟩ ⟨hp.1, va_recv zz.1 hPc (ci := ci) (q0 := q0) hc he, hp.2⟩ rfl hn hls.1 hst hW hdg hf
theorem zrunS (X : zx p s m args meth c R own cc ret0 nL F L) (zz : zk dC dI cB cI cL A s) (hP : va_P (dC, dI) zcl ws H) (hD : va_D A ws) (hS : va_S A s.heap H locs) (hA : ∀ q, s.heap.size ≤ q → A q) (isC : List Nat) (hnd : va_nd isC = true) (hC : isC.map (fun i => ws[i]?) = wc.map some)
    (hM : Met l y (zw y bytes maxL ret) rm (va_Pc As (zpre dC dI cB cI cL H.size wc)) Qc mc ms (va_A wc H.size)) (hy : zy y bytes maxL ret n) (hv : Cond.static y ∈ ztb) (hl : (Cond.methodLink own idx y).before args s = true) (hls : lv_has ls nL lv)
    (hst : st0 = As.reverse ++ rest) (hn : As.length = n) (hdg : decode cc pc = .ok (.invokestatic idx, 3)) (hW : 2 * (F0 m pc ls st0).monitorRoom + (rest.map fun v => v.category).sum ≤ 8) (hrc : rm.cells = mc) (hrs : rm.slots = ms) (hR : rm.frames + 1 ≤ R.frames ∧ 8 + (maxL + 11) + rm.locals ≤ R.locals) (hf : cells + mc ≤ R.cells ∧ slots + ms ≤ R.slots) :
    va_Run p l e R s m args below meth c H locs cells slots mc ms (F0 m pc ls st0) rest (Qc As.toArray) (va_A wc H.size) := by
  have hp := zpreS (av := As) zz hP hD hS hA isC hnd hC
  exact va_runS (zfix X) hM ⟨zcb X hy hl hrc hrs hR, X.2.2.2.2.2.1 _ hv⟩ hp rfl hn hls.1 hst hW hdg hf
theorem zcn {host : String} (X : zx p s m args meth c R own cc ret0 nL F L) (hy : zy y bytes maxL ret n) (hl : va_Nw (.methodLinkNest own idx y host) s) (hrc : rm.cells = mc) (hrs : rm.slots = ms) (hR : rm.frames + 1 ≤ R.frames ∧ 8 + (maxL + 11) + rm.locals ≤ R.locals) :
    va_CN R s args own idx y host bytes maxL ret (zw y bytes maxL ret) rm mc ms n :=
  va_cnB n X.2.2.2.2.2.1 (zgood hy) rfl hrc hrs hl (X.2.2.2.2.2.1 _ hy.2.1) hy.2.2 hR
theorem zrunSN {host : String} (X : zx p s m args meth c R own cc ret0 nL F L) (zz : zk dC dI cB cI cL A s) (hP : va_P (dC, dI) zcl ws H) (hD : va_D A ws) (hS : va_S A s.heap H locs) (hA : ∀ q, s.heap.size ≤ q → A q) (isC : List Nat) (hnd : va_nd isC = true) (hC : isC.map (fun i => ws[i]?) = wc.map some)
    (hM : Met l y (zw y bytes maxL ret) rm (va_Pc As (zpre dC dI cB cI cL H.size wc)) Qc mc ms (va_A wc H.size)) (hy : zy y bytes maxL ret n) (hv : Cond.static y ∈ ztb) (hl : va_Nw (.methodLinkNest own idx y host) s) (hls : lv_has ls nL lv)
    (hst : st0 = As.reverse ++ rest) (hn : As.length = n) (hdg : decode cc pc = .ok (.invokestatic idx, 3)) (hW : 2 * (F0 m pc ls st0).monitorRoom + (rest.map fun v => v.category).sum ≤ 8) (hrc : rm.cells = mc) (hrs : rm.slots = ms) (hR : rm.frames + 1 ≤ R.frames ∧ 8 + (maxL + 11) + rm.locals ≤ R.locals) (hf : cells + mc ≤ R.cells ∧ slots + ms ≤ R.slots) :
    va_Run p l e R s m args below meth c H locs cells slots mc ms (F0 m pc ls st0) rest (Qc As.toArray) (va_A wc H.size) := by
  have hp := zpreS (av := As) zz hP hD hS hA isC hnd hC
  exact va_runSN (zfix X) hM ⟨zcn X hy hl hrc hrs hR, X.2.2.2.2.2.1 _ hv, trivial⟩ hp rfl hn hls.1 hst hW hdg hf
theorem zrunI (X : zx p s m args meth c R own cc ret0 nL F L) (zz : zk dC dI cB cI cL A s) (hP : va_P (dC, dI) zcl ws H) (hD : va_D A ws) (hS : va_S A s.heap H locs) (hA : ∀ q, s.heap.size ≤ q → A q) (isC : List Nat) (hnd : va_nd isC = true) (hC : isC.map (fun i => ws[i]?) = wc.map some)
    (hM : Met l y (zw y bytes maxL none) rm (va_Pc (.ref b :: As) (zpre dC dI cB cI cL H.size wc)) Qc mc ms (va_A wc H.size)) (hy : zy y bytes maxL none n) (hv : Cond.instanceMethod y ∈ ztb) (hnm : y.name = "<init>") (hl : (Cond.methodLink own idx y).before args s = true) (hls : lv_has ls nL lv)
    (hst : st0 = As.reverse ++ .ref b :: rest) (hn : As.length = n) (hdg : decode cc pc = .ok (.invokespecial idx, 3)) (hW : 2 * (F0 m pc ls st0).monitorRoom + (rest.map fun v => v.category).sum ≤ 8) (hrc : rm.cells = mc) (hrs : rm.slots = ms) (hR : rm.frames + 1 ≤ R.frames ∧ 8 + (maxL + 11) + rm.locals ≤ R.locals) (hf : cells + mc ≤ R.cells ∧ slots + ms ≤ R.slots) :
    va_Run p l e R s m args below meth c H locs cells slots mc ms (F0 m pc ls st0) rest (Qc (Value.ref b :: As).toArray) (va_A wc H.size) := by
  have hp := zpreS (av := .ref b :: As) zz hP hD hS hA isC hnd hC
  exact va_runI (zfix X) hM ⟨zcb X hy hl hrc hrs hR, hnm, X.2.2.2.2.2.1 _ hv⟩ hp rfl hn hls.1 hst hW hdg hf
theorem zrunIN {host : String} (X : zx p s m args meth c R own cc ret0 nL F L) (zz : zk dC dI cB cI cL A s) (hP : va_P (dC, dI) zcl ws H) (hD : va_D A ws) (hS : va_S A s.heap H locs) (hA : ∀ q, s.heap.size ≤ q → A q) (isC : List Nat) (hnd : va_nd isC = true) (hC : isC.map (fun i => ws[i]?) = wc.map some)
    (hM : Met l y (zw y bytes maxL none) rm (va_Pc (.ref b :: As) (zpre dC dI cB cI cL H.size wc)) Qc mc ms (va_A wc H.size)) (hy : zy y bytes maxL none n) (hv : Cond.instanceMethod y ∈ ztb) (hnm : y.name = "<init>") (hl : va_Nw (.methodLinkNest own idx y host) s) (hls : lv_has ls nL lv)
    (hst : st0 = As.reverse ++ .ref b :: rest) (hn : As.length = n) (hdg : decode cc pc = .ok (.invokespecial idx, 3)) (hW : 2 * (F0 m pc ls st0).monitorRoom + (rest.map fun v => v.category).sum ≤ 8) (hrc : rm.cells = mc) (hrs : rm.slots = ms) (hR : rm.frames + 1 ≤ R.frames ∧ 8 + (maxL + 11) + rm.locals ≤ R.locals) (hf : cells + mc ≤ R.cells ∧ slots + ms ≤ R.slots) :
    va_Run p l e R s m args below meth c H locs cells slots mc ms (F0 m pc ls st0) rest (Qc (Value.ref b :: As).toArray) (va_A wc H.size) := by
  have hp := zpreS (av := .ref b :: As) zz hP hD hS hA isC hnd hC
  exact va_runIN (zfix X) hM ⟨zcn X hy hl hrc hrs hR, hnm, X.2.2.2.2.2.1 _ hv⟩ hp rfl hn hls.1 hst hW hdg hf
theorem zcalli {S : Type} {post : Int32 → S → Prop} {W1 : S → va_W} {av : Array Value} (hr : va_Run p l e R s m args below meth c H locs cells slots mc ms (F0 m pc ls st0) rest (va_Qi post (fun u U => va_P (dC, dI) zcl (W1 u) U.heap ∧ va_D (va_A wc H.size) (W1 u)) (va_A wc H.size) av) (va_A wc H.size))
    (hP : va_P (dC, dI) zcl ws H) (hD : va_D A ws) (hS : va_S A s.heap H locs) (hA : ∀ q, s.heap.size ≤ q → A q) (isC isR : List Nat) (hC : isC.map (fun i => ws[i]?) = wc.map some) (hR : isR.map (fun i => ws[i]?) = wr.map some) (hn : va_nd isR = true) (hdis : ∀ i ∈ isR, i ∉ isC)
    (kk : ∀ (r : Int32) (u : S) (H1 : Heap) (locs1 : List Loc), post r u → va_P (dC, dI) zcl (wr ++ W1 u) H1 → va_D A (wr ++ W1 u) → va_S A s.heap H1 locs1 → W p l e R s m args below meth c H1 locs1 (cells + mc) (slots + ms) Q (F0 m (pc + 3) ls (.int r :: rest))) : W p l e R s m args below meth c H locs cells slots Q (F0 m pc ls st0) := by
  have hF : ∀ q, va_A wc H.size q → A q := va_free hD hS hA isC hC
  refine va_calli hr hS (fun q _ h => hF q h) hF (fun r u t H1 locs1 ht hvm hw hB hz1 hk1 hS1 => ?_)
  obtain ⟨hP1, hD1⟩ := hB
  rw [ht] at hP1
  obtain ⟨h1, h2⟩ := va_join hP hD isC isR hC hR hn hdis hk1 hF hP1 hD1
  exact kk r u H1 locs1 hw h1 h2 hS1
theorem zcalll {S : Type} {post : Int64 → S → Prop} {W1 : S → va_W} {av : Array Value} (hr : va_Run p l e R s m args below meth c H locs cells slots mc ms (F0 m pc ls st0) rest (va_Ql post (fun u U => va_P (dC, dI) zcl (W1 u) U.heap ∧ va_D (va_A wc H.size) (W1 u)) (va_A wc H.size) av) (va_A wc H.size))
    (hP : va_P (dC, dI) zcl ws H) (hD : va_D A ws) (hS : va_S A s.heap H locs) (hA : ∀ q, s.heap.size ≤ q → A q) (isC isR : List Nat) (hC : isC.map (fun i => ws[i]?) = wc.map some) (hR : isR.map (fun i => ws[i]?) = wr.map some) (hn : va_nd isR = true) (hdis : ∀ i ∈ isR, i ∉ isC)
    (kk : ∀ (r : Int64) (u : S) (H1 : Heap) (locs1 : List Loc), post r u → va_P (dC, dI) zcl (wr ++ W1 u) H1 → va_D A (wr ++ W1 u) → va_S A s.heap H1 locs1 → W p l e R s m args below meth c H1 locs1 (cells + mc) (slots + ms) Q (F0 m (pc + 3) ls (.long r :: rest))) : W p l e R s m args below meth c H locs cells slots Q (F0 m pc ls st0) := by
  have hF : ∀ q, va_A wc H.size q → A q := va_free hD hS hA isC hC
  refine va_calll hr hS (fun q _ h => hF q h) hF (fun r u t H1 locs1 ht hvm hw hB hz1 hk1 hS1 => ?_)
  obtain ⟨hP1, hD1⟩ := hB
  rw [ht] at hP1
  obtain ⟨h1, h2⟩ := va_join hP hD isC isR hC hR hn hdis hk1 hF hP1 hD1
  exact kk r u H1 locs1 hw h1 h2 hS1
theorem zcallv {S : Type} {post : S → Prop} {W1 : S → va_W} {av : Array Value} (hr : va_Run p l e R s m args below meth c H locs cells slots mc ms (F0 m pc ls st0) rest (va_Qv post (fun u U => va_P (dC, dI) zcl (W1 u) U.heap ∧ va_D (va_A wc H.size) (W1 u)) (va_A wc H.size) av) (va_A wc H.size))
    (hP : va_P (dC, dI) zcl ws H) (hD : va_D A ws) (hS : va_S A s.heap H locs) (hA : ∀ q, s.heap.size ≤ q → A q) (isC isR : List Nat) (hC : isC.map (fun i => ws[i]?) = wc.map some) (hR : isR.map (fun i => ws[i]?) = wr.map some) (hn : va_nd isR = true) (hdis : ∀ i ∈ isR, i ∉ isC)
    (kk : ∀ (u : S) (H1 : Heap) (locs1 : List Loc), post u → va_P (dC, dI) zcl (wr ++ W1 u) H1 → va_D A (wr ++ W1 u) → va_S A s.heap H1 locs1 → W p l e R s m args below meth c H1 locs1 (cells + mc) (slots + ms) Q (F0 m (pc + 3) ls rest)) : W p l e R s m args below meth c H locs cells slots Q (F0 m pc ls st0) := by
  have hF : ∀ q, va_A wc H.size q → A q := va_free hD hS hA isC hC
  refine va_callv hr hS (fun q _ h => hF q h) hF (fun u t H1 locs1 ht hvm hw hB hz1 hk1 hS1 => ?_)
  obtain ⟨hP1, hD1⟩ := hB
  rw [ht] at hP1
  obtain ⟨h1, h2⟩ := va_join hP hD isC isR hC hR hn hdis hk1 hF hP1 hD1
  exact kk u H1 locs1 hw h1 h2 hS1
end ZR
end
section
-- own rows: a method that may throw
def zFE (st t : State) (L : List Loc) (k n : Nat) : Prop := st.WarmedH t.vm ∧ st.sameButNew ({ t with vm := st.vm } : State) L k n
def zMQ (below : List Frame) (Qc : Array Value → State → Outcome → State → Prop) (a : Array Value) (s : State) (mc ms : Nat) (free : Addr → Prop) : State → Prop := fun t =>
  ∃ o, t.status = .running ∧ Ended t below o ∧ Qc a s o t ∧ ∃ L, zFE s t L mc ms ∧ ∀ q ∈ L, free q.base
def zMet (l : Launch) (y : MethodName) (ws : List Cond) (rm : Room) (Pc : Array Value → State → Prop) (Qc : Array Value → State → Outcome → State → Prop) (mc ms : Nat) (free : Addr → Prop) : Prop :=
  MetFree l y (headSpec ws rm) Pc (fun _ _ _ _ _ => True) (fun a st o t => Qc a st o t ∧ ∃ L, zFE st t L mc ms ∧ ∀ q ∈ L, free q.base)
theorem zMet.ofW {l : Launch} {y : MethodName} {ws ws' : List Cond} {rm : Room} {Pc : Array Value → State → Prop} {Qc : Array Value → State → Outcome → State → Prop} {mc ms : Nat} {free : Addr → Prop} {cc : ByteArray} {maxL : Nat} {ret : Option FieldType}
    (hy : plainName y.cls = true) (hw : ws = Cond.code y cc maxL ret :: ws')
    (body : ∀ p e s m args below meth c s₁, BodyLoose p l y (headSpec ws rm) cc maxL ret e s m args below meth c s₁ → c.maxLocals = maxL → Pc args s →
      W p l e (headSpec ws rm).room s m args below meth c s.heap [] 0 0 (zMQ below Qc args s mc ms free) (entryFrame m args maxL)) : zMet l y ws rm Pc Qc mc ms free := by
  refine MetFree.of_bodyS (code := cc) (maxLocals := maxL) (ret := ret) hy ?_ ?_
  · intro args s m h hn
    obtain ⟨meth, c, h1, h2, h3, h4, h5, h6, -, -⟩ := Cond.code_spec hn (atoms_spec (ws := ws) h _ (by rw [hw]; exact List.mem_cons_self))
    exact ⟨meth, c, h1, h2, h3, h4, h5, h6⟩
  · intro p e s m args below meth c s₁ B hml hP _
    have hh0 : s₁.heap = s.heap := by rw [B.state]; rfl
    obtain ⟨t, a1, o, b1, b2, b3⟩ := body p e s m args below meth c s₁ B hml hP s₁ hh0 (Stand.of_body B)
    exact ⟨t, o, a1, b1, b2, b3⟩
section ZX
variable {p : Program} {l : Launch} {e : Env} {R : Room} {s : State} {m : MethodId} {args : Array Value} {below : List Frame} {meth : Method} {c : Code} {H : Heap} {locs : List Loc} {cells slots : Nat} {Q : State → Prop}
theorem zup {Qc Qc' : Array Value → State → Outcome → State → Prop} {free : Addr → Prop} {mc ms : Nat} {g : JFrame} (h : ∀ o t, Qc args s o t → Qc' args s o t) (k : W p l e R s m args below meth c H locs cells slots (MQ below Qc args s mc ms free) g) : W p l e R s m args below meth c H locs cells slots (zMQ below Qc' args s mc ms free) g := by
  intro T hT X
  obtain ⟨t, a, o, h1, h2, h3, L, h4, h5⟩ := k T hT X
  exact ⟨t, a, o, h1, h2, h o t h3, L, ⟨h4.2.1, h4.2.2⟩, h5⟩
end ZX
def zE : Nat → String
  | 1 => "java/lang/IllegalArgumentException"
  | 2 => "java/lang/IllegalStateException"
  | _ => "java/util/NoSuchElementException"
def zthr (k : Nat) (q : Addr) (st t : State) : Prop := st.heap.size ≤ q ∧ ∃ ce : Cell, t.heap[q]? = some ce ∧ ce.vm = .none ∧ st.vm.findClass (zE k) = some ce.cls
def zQx {α S : Type} (mk : α → Option Value) (post : α ⊕ Nat → S → Prop) (D : va_G) (W1 : S → va_W) (A : Nat → Prop) : Array Value → State → Outcome → State → Prop := fun _ st o t =>
  ∃ u : S, va_P D zcl (W1 u) t.heap ∧ va_D A (W1 u) ∧ va_F A st t ∧ ((∃ r : α, o = .returned (mk r) ∧ post (.inl r) u) ∨ ∃ (k : Nat) (q : Addr), o = .threw q ∧ post (.inr k) u ∧ zthr k q st t)
-- the words that a throw needs
def zsp : List Cond := [.laysStatic Bundle.tN "UNASSIGNED_STACK" Bundle.steD, .laysStatic Bundle.tN "SUPPRESSED_SENTINEL" Bundle.listD, .isRef (.static Bundle.tN "UNASSIGNED_STACK" Bundle.steD), .isRef (.static Bundle.tN "SUPPRESSED_SENTINEL" Bundle.listD)]
def znames : Nat → List String := fun _ => ["java/lang/RuntimeException", "java/lang/Exception"]
theorem zZeval {C n d : String} {v : Value} {A : Nat → Prop} {s : State} {args : Array Value} (h : va_Z C n d v A s s.heap) : (Term.static C n d).eval args s none [] s = some v := by
  obtain ⟨cf, kf, fi, f, a, cell, h1, h2, h3, h4, h5, h6, h7, -⟩ := h
  simp [Term.eval, State.fieldNamed?, h1, h2, h4, h5, h6, h7]
theorem zsp_ok {A : Nat → Prop} {s : State} {args : Array Value} (h : zstat A s) : ∀ w ∈ zsp, w.before args s = true := by
  have hr : ∀ {n d : String}, va_Zq Bundle.tN n d A s s.heap → (Cond.isRef (.static Bundle.tN n d)).before args s = true := by
    intro n d hz
    rcases hz with hz | ⟨t, hz⟩
    · have e := zZeval (args := args) hz
      simp [Cond.before, Cond.holds, Cond.value, e]
    · have e := zZeval (args := args) hz
      simp [Cond.before, Cond.holds, Cond.value, e]
  intro w hw
  simp only [zsp, List.mem_cons, List.not_mem_nil, or_false] at hw
  rcases hw with rfl | rfl | rfl | rfl
  · exact h.2.2.2.2.2.2.1
  · exact h.2.2.2.2.2.2.2
  · exact hr h.2.2.2.2.1
  · exact hr h.2.2.2.2.2.1
def zown (own : String) (ic : Nat) (X : String) (ix : Nat) (bx : ByteArray) : List Cond :=
  Bundle.throwableAtoms ++ Bundle.throwableSAtoms ++ (Bundle.passSAtoms X "java/lang/RuntimeException" ix bx ++ Bundle.chainSAtoms "java/lang/RuntimeException" ["java/lang/Exception"]) ++
  [.methodLink own ic (Bundle.initS X), .instantiable X 6, .castable X X, .selects X Bundle.tFill0 Bundle.tFill0, .selects X Bundle.tFill Bundle.tFill,
   .lays X Bundle.tN "cause" "Ljava/lang/Throwable;", .lays X Bundle.tN "stackTrace" Bundle.steD, .lays X Bundle.tN "suppressedExceptions" Bundle.listD, .lays X Bundle.tN "detailMessage" "Ljava/lang/String;",
   .isRef (.static Bundle.tN "UNASSIGNED_STACK" Bundle.steD), .isRef (.static Bundle.tN "SUPPRESSED_SENTINEL" Bundle.listD),
   .fieldLink Bundle.tN 198 Bundle.tN "backtrace" "Ljava/lang/Object;", .lays Bundle.tN Bundle.tN "backtrace" "Ljava/lang/Object;", .lays X Bundle.tN "backtrace" "Ljava/lang/Object;"]
def zIx : Nat → Nat
  | 3 => 13
  | _ => 7
def zBx : Nat → ByteArray
  | 3 => ⟨#[0x2a, 0x2b, 0xb7, 0x00, 0x0d, 0xb1]⟩
  | _ => ⟨#[0x2a, 0x2b, 0xb7, 0x00, 0x07, 0xb1]⟩
def zCdec (ix : Nat) (bx : ByteArray) : Prop := decode bx 0 = .ok (.aload_n 0, 1) ∧ decode bx 1 = .ok (.aload_n 1, 1) ∧ decode bx 2 = .ok (.invokespecial ix, 3) ∧ decode bx 5 = .ok (.return_, 1)
def zhas (w : Cond) : Bool := (goodWord w && decide (w ∈ lw_tbl)) || (zisn w && decide (w ∈ lw_tbl)) || decide (w ∈ zsp)
theorem zatoms {own : String} {ic k : Nat} (hall : (zown own ic (zE k) (zIx k) (zBx k)).all zhas = true) {dC : Nat → ClassId} {dI : Nat → Nat → Nat} {cB cI cL : ClassId} {A : Nat → Prop} {s : State} {args : Array Value} (hts : ∀ w ∈ ztb, w.before args s = true) (zz : zk dC dI cB cI cL A s) :
    ∀ a ∈ zown own ic (zE k) (zIx k) (zBx k), a.before args s = true := by
  intro a ha
  have h := List.all_eq_true.mp hall a ha
  simp only [zhas, Bool.or_eq_true, Bool.and_eq_true, decide_eq_true_eq] at h
  rcases h with (⟨h1, h2⟩ | ⟨h1, h2⟩) | h1
  · exact hts a (List.mem_filter.mpr ⟨h2, h1⟩)
  · have hm : a ∈ zN := List.mem_filter.mpr ⟨h2, h1⟩
    exact va_Nw.use (zN_tab a hm) (zz.2.1 a hm)
  · exact zsp_ok zz.2.2.1 a h1
-- own row: 'throw new E("text")', what is left of the heap told exactly (the way to it follows the library's Stand.ctorThrowS, whose end speaks of the start's cells alone)
set_option maxHeartbeats 1000000 in
theorem zctor {p : Program} {l : Launch} {e : Env} {R : Room} {s : State} {m₀ : MethodId} {args : Array Value} {below : List Frame} {meth : Method} {c : Code} {W : State} {locs : List Loc} {cells slots : Nat}
    (X : Stand p l e R s m₀ args below meth c W locs cells slots) (hexec : p.tables.exec = Jvm.exec) (htr : e.platform.stackTraces = false) {own cls : String} {ix : Nat} {bx : ByteArray} {ic : Nat}
    (hown : s.vm.findClass own = some m₀.cls) (hcls : Bundle.fit cls = true) (hdec : zCdec ix bx)
    (h : ∀ a ∈ zown own ic cls ix bx, a.before args s = true)
    (hlocs : ∀ x ∈ locs, ∀ cell, s.heap[x.base]? = some cell → cell.vm.isStatics = false)
    {a : Addr} {cX : ClassId} {kX : Class} (hfoundX : s.vm.findClass cls = some cX) (hkX : s.vm.classes[cX]? = some kX) (hcell : W.heap[a]? = some (freshCell cX kX)) (hnew : s.heap.size ≤ a)
    {msg : Value} (hmsg : msg.isRef = true)
    {g : JFrame} (hg : g.method = m₀) (hsize : g.locals.size = c.maxLocals) (hlocked : g.locked = none) (hentered : g.entered = []) {rest : List Value} (hstack : g.stack = msg :: .ref a :: .ref a :: rest)
    (hd6 : decode c.code g.pc = .ok (.invokespecial ic, 3)) (hd9 : decode c.code (g.pc + 3) = .ok (.athrow, 1)) (hout : ∀ x ∈ c.exceptionTable.toList, covers x (g.pc + 3) = false)
    (hRframes : 5 < R.frames) (hRlocals : 2 * g.monitorRoom + ((Value.ref a :: rest).map fun v => v.category).sum + 81 ≤ R.locals) (hlocks : meth.locks = false) :
    ∃ U : State, Steps p.tables e below (W.setTop g) U ∧ U.status = .running ∧ Ended U below (.threw a) ∧ s.WarmedH U.vm ∧ s.sameButNew ({ U with vm := s.vm } : State) locs cells slots ∧
      (∃ ce, U.heap[a]? = some ce ∧ ce.vm = .none ∧ ce.cls = cX) ∧ U.heap.size = W.heap.size ∧ ∀ q : Nat, q ≠ a → U.heap[q]? = W.heap[q]? := by
  have howns : e.platform.frameOwnsMonitors = true := by rw [X.admits.platform]
  have hfin : e.platform.finalization = false := by rw [X.admits.platform]
  have hpl : e.platform.magicAccessors = ({} : Platform).magicAccessors := by rw [X.admits.platform]
  have a' : ∀ x, x ∈ zown own ic cls ix bx → x.holds args s none s [] = true := fun x hx => h x hx
  obtain ⟨T, Z0, L, -, Y⟩ := ThrowableC.of_atoms (args := args) howns hfin hpl (fun x hx => h x (by simp [zown, hx]))
  obtain ⟨Z, M, LZ, LM, hnZ⟩ := Init0T.ofS_atoms (args := args) hpl L Y (fun x hx => h x (by simp [zown, hx]))
  obtain ⟨P2, Ps, hlen, L2, hL, hP2m, hlink2, hlink⟩ := Bundle.chainS (args := args) hpl hnZ ["java/lang/Exception"] "java/lang/RuntimeException" (by decide +kernel) (by decide +kernel) (fun x hx => h x (by simp [zown, hx]))
  obtain ⟨P1, L1, hP1m, hP1s⟩ := PassC.ofS_atoms (args := args) (pl := e.platform) hpl (X := cls) (Y := "java/lang/RuntimeException") (index := ix) (bytes := bx) (Bundle.fit_spec hcls).1 (by decide) hdec.1 hdec.2.1 hdec.2.2.1 hdec.2.2.2 (fun x hx => h x (by simp [zown, hx]))
  have hlink1 : P1.sup = P2.m := Option.some.inj (hP1s.symm.trans hP2m)
  have hfound : s.vm.findClass cls = some P1.m.cls := findClass_of_methodNamed hP1m
  cases Option.some.inj (hfoundX.symm.trans hfound)
  obtain ⟨c1, kX', hc1, hk, hord, -, -, hn6⟩ := Cond.instantiable_spec (a' (.instantiable cls 6) (by simp [zown]))
  cases Option.some.inj (hc1.symm.trans hfound)
  cases Option.some.inj (hkX.symm.trans hk)
  have hsel0 : selectMethod e.platform s.vm P1.m.cls T.fill0 = .method T.fill0 := by
    obtain ⟨c2, r2, m2, q1, q2, q3, q4, -⟩ := Cond.selects_spec (a' (.selects cls Bundle.tFill0 Bundle.tFill0) (by simp [zown]))
    cases Option.some.inj (q1.symm.trans hfound)
    cases Option.some.inj (q2.symm.trans (State.methodFound?_of_named Y.fill0 (by decide)))
    cases Option.some.inj (q3.symm.trans Y.fill0)
    rw [Launch.admits_selectMethod X.admits]; exact q4
  have hselF : selectMethod e.platform s.vm P1.m.cls T.fill = .method T.fill := by
    obtain ⟨c2, r2, m2, q1, q2, q3, q4, -⟩ := Cond.selects_spec (a' (.selects cls Bundle.tFill Bundle.tFill) (by simp [zown]))
    cases Option.some.inj (q1.symm.trans hfound)
    cases Option.some.inj (q2.symm.trans (State.methodFound?_of_named Y.fill (by decide)))
    cases Option.some.inj (q3.symm.trans Y.fill)
    rw [Launch.admits_selectMethod X.admits]; exact q4
  obtain ⟨cellS0, hcS0, hiss⟩ := Y.statics
  obtain ⟨u0, hu0⟩ := Cond.staticRefV Y.unassigned L.unassignedStatic L.statics hcS0 hiss (a' (.isRef (.static Bundle.tN "UNASSIGNED_STACK" Bundle.steD)) (by simp [zown]))
  obtain ⟨sen, hsen⟩ := Cond.staticRefV Y.sentinel L.sentinelStatic L.statics hcS0 hiss (a' (.isRef (.static Bundle.tN "SUPPRESSED_SENTINEL" Bundle.listD)) (by simp [zown]))
  obtain ⟨ci198, i198, fB, hk198, hg198, ha198, hsB, -, hnB, htB, hffB⟩ := Cond.ownField (t := .object "java/lang/Object") Y.found L.cls (by decide +kernel) (a' (.fieldLink Bundle.tN 198 Bundle.tN "backtrace" "Ljava/lang/Object;") (by simp [zown])) (a' (.lays Bundle.tN Bundle.tN "backtrace" "Ljava/lang/Object;") (by simp [zown])) e.platform hpl
  obtain ⟨cellS, hcS', heS, -, hkeep⟩ := X.same.2.2.2.2.2 T.aS cellS0 hcS0
  have hcellS : W.heap[T.aS]? = some cellS := hcS'
  have hout' : ∀ i, (⟨T.aS, i⟩ : Loc) ∉ locs := fun i hmem => by
    have := hlocs _ hmem cellS0 hcS0
    rw [hiss] at this; cases this
  have hknownS : cellS.vm ≠ .unknown := by
    rw [heS]; intro hu
    rw [show cellS0.vm = .unknown from hu] at hiss
    cases hiss
  have hneS : T.aS ≠ a := Nat.ne_of_lt (Nat.lt_of_lt_of_le (Array.getElem?_eq_some_iff.mp hcS0).1 hnew)
  obtain ⟨iM, hffM⟩ := Y.msg
  obtain ⟨tyC, dC, hdC, hdnC⟩ := Cond.laysAt hfound hk Y.cause (a' (.lays cls Bundle.tN "cause" "Ljava/lang/Throwable;") (by simp [zown]))
  obtain ⟨tyS, dS, hdS, hdnS⟩ := Cond.laysAt hfound hk Y.stack (a' (.lays cls Bundle.tN "stackTrace" Bundle.steD) (by simp [zown]))
  obtain ⟨tyP, dP, hdP, hdnP⟩ := Cond.laysAt hfound hk Y.supp (a' (.lays cls Bundle.tN "suppressedExceptions" Bundle.listD) (by simp [zown]))
  obtain ⟨tyM, dM, hdM, hdnM⟩ := Cond.laysAt hfound hk hffM (a' (.lays cls Bundle.tN "detailMessage" "Ljava/lang/String;") (by simp [zown]))
  obtain ⟨tyB, dB, hdB, hdnB⟩ := Cond.laysAt hfound hk hffB (a' (.lays cls Bundle.tN "backtrace" "Ljava/lang/Object;") (by simp [zown]))
  have bC := Cond.laysApart hdB hdC hdnB hdnC (by rw [hnB, Y.causeName]; decide)
  have bS := Cond.laysApart hdB hdS hdnB hdnS (by rw [hnB, Y.stackName]; decide)
  have bP := Cond.laysApart hdB hdP hdnB hdnP (by rw [hnB, Y.suppName]; decide)
  have hskip : SkipFacts T e.platform s (fun u => u) u0 ((preparedCellV T.toThrowableT (freshCell P1.m.cls kX) a u0 sen).withEntry W.cur) :=
    ⟨{ ci198 := ci198, i198 := i198, fBack := fB }, ⟨hk198, hg198, ha198, hsB⟩, by
      have := fresh_default (c := P1.m.cls) tyB
      rw [htB] at this
      simpa [preparedCellV, Cell.setSlot, Cell.withEntry, Array.getElem?_setIfInBounds, bC, bS, bP, bC.symm, bS.symm, bP.symm, defaultValue] using this, fun _ _ => rfl⟩
  obtain ⟨tm, methC, cdC, kC, vm₁, hnC, -, -, -, -, -, -, -, hW₁, st1⟩ := Steps.initColdS (tb := p.tables) (e := e) (below := below) (s := s) (U := W) X.here hexec X.warmed hpl hown (t := Bundle.initS cls) rfl rfl (Bundle.fit_spec hcls).2
    (a' (.methodLink own ic (Bundle.initS cls)) (by simp [zown])) (h (.instanceMethod (Bundle.initS cls)) (by simp [zown, Bundle.passSAtoms])) (bytes := bx) (maxL := 2) (h (.code (Bundle.initS cls) bx 2 none) (by simp [zown, Bundle.passSAtoms]))
    (f := g) hg (a := a) (msg := msg) (rest := .ref a :: rest) hstack hd6
  cases Option.some.inj (hnC.symm.trans hP1m)
  have X₁ := X.noted hW₁
  obtain ⟨vm₂, X₂, st2⟩ := X₁.ctorMessageOffV hexec (g := { g with stack := .ref a :: rest }) hg hsize T L Z LZ M LM (P1 :: P2 :: Ps)
    (fun P hP => by rcases List.mem_cons.mp hP with rfl | hP; exact L1; rcases List.mem_cons.mp hP with rfl | hP; exact L2; exact hL P hP) ⟨hlink1, hlink2, hlink⟩ (u0 := u0) (sen := sen) (self := a) hmsg (cell := freshCell P1.m.cls kX) (cellS := cellS)
    hcell (fun _ => by simp) (by simp) rfl rfl hsel0 hselF hcellS hneS hknownS (by rw [hkeep _ (hout' _)]; exact hu0) (by rw [hkeep _ (hout' _)]; exact hsen)
    (Takes.of_laid hk hord tyC (by rw [Y.causeType]; rfl)) (Takes.of_laid hk hord tyS (by rw [Y.stackType]; exact fits_refV_array _ u0)) (Takes.of_laid hk hord tyP (by rw [Y.suppType]; exact fits_refV_object _ sen))
    (Takes.of_laid hk hord tyM (by rw [Y.msgType]; exact fits_refV_object _ ⟨msg, hmsg⟩)) Y.objLocals hskip htr [] hd6
    (by simp only [List.length_cons, hlen, List.length_nil]; omega) (by simp only [List.length_cons, hlen, List.length_nil]; exact hRlocals)
  obtain ⟨hwalk, hrun, hended, hWU, hsame⟩ := X₂.athrowLeaves hexec (g := { g with stack := .ref a :: rest, pc := g.pc + 3 }) hg hlocked hentered hout (a := a) (rest := rest) rfl hd9
  have hlt : a < ((W.setVm vm₁).setVm vm₂).heap.size := (Array.getElem?_eq_some_iff.mp hcell).1
  have hU := heapAt_setCell_self (s := (W.setVm vm₁).setVm vm₂) (plainBareV T.toThrowableT (freshCell P1.m.cls kX) a u0 sen msg) hlt
  refine ⟨_, st1 _ (fun acts => ?_), hrun, hended, hWU, hsame.weaken (fun y hy hlt' => ?_) (Nat.le_refl _) (Nat.le_refl _), ⟨_, hU, rfl, rfl⟩, ?_, ?_⟩
  · rw [doInvoke_state]
    exact st2 _ hwalk
  · rcases List.mem_append.mp hy with h1 | h1
    · exact h1
    · exfalso
      have hb : y.base = a := by
        simp only [List.mem_cons, List.not_mem_nil, or_false] at h1
        rcases h1 with rfl | rfl | rfl | rfl | rfl <;> rfl
      rw [hb] at hlt'
      exact Nat.not_lt.mpr hnew hlt'
  · simp [State.setFrames, State.setCell, State.setVm]
  · intro q hq
    simp [State.setFrames, State.setCell, State.setVm, Array.getElem?_setIfInBounds, Ne.symm hq]
theorem zoff {l : Launch} {e : Env} (h : l.admits e) (hl : l.stackTraces = false) : e.platform.stackTraces = false := by
  rw [h.platform]; exact hl
theorem zold {D : va_G} {cl : List vw_C} {ws : va_W} {H H1 : Heap} (h : va_P D cl ws H) (ho : ∀ q' : Nat, q' < H.size → H1[q']? = H[q']?) : ∀ (k : Nat) (q : Nat × va_E), ws[k]? = some q → H1[q.1]? = H[q.1]? := fun k q hk => ho _ (h k q hk).lt
theorem zFr {A : Nat → Prop} {s t : State} {H : Heap} {locs : List Loc} (hS : va_S A s.heap H locs) (hz : H.size ≤ t.heap.size) (ho : ∀ q' : Nat, q' < H.size → t.heap[q']? = H[q']?) : va_F A s t :=
  ⟨Nat.le_trans hS.1 hz, fun q hq hn => (ho q (Nat.lt_of_lt_of_le hq hS.1)).trans (hS.2.1 q hq hn)⟩
def zmx {α β : Type} (x : α ⊕ Nat) (f : α → Option β) (k : Nat → Option β) : Option β := match x with
  | .inl r => f r
  | .inr n => k n
theorem zat_plain {D : va_G} {cl : List vw_C} {q : Nat × va_E} {H : Heap} (h : va_at D cl q H) {cell : Cell} (hc : H[q.1]? = some cell) : cell.vm.isStatics = false := by
  obtain ⟨a, e⟩ := q
  cases e with
  | inl x =>
    have h1 : H[a]? = some (vp_cell x.1 x.2) := h
    cases Option.some.inj (hc.symm.trans h1)
    obtain ⟨cA, n, f⟩ := x
    rcases f with f | f | f | f | f <;> rfl
  | inr o =>
    obtain ⟨r, h1, cell2, h2, h3⟩ := h
    cases Option.some.inj (hc.symm.trans h2)
    first | rw [h3.2.1]; rfl | rw [h3.1]; rfl | simp [h3]
theorem zstatics {D : va_G} {cl : List vw_C} {w : va_W} {H : Heap} (h : va_P D cl w H) : ∀ q, va_A w H.size q → ∀ cell, H[q]? = some cell → cell.vm.isStatics = false := by
  intro q hq cell hcell
  rcases hq with ⟨k, e, hk⟩ | hq
  · exact zat_plain (h k (q, e) hk) hcell
  · exact absurd (Array.getElem?_eq_some_iff.mp hcell).1 (Nat.not_lt.mpr hq)
section ZRET
variable {p : Program} {l : Launch} {e : Env} {R : Room} {s : State} {m : MethodId} {args : Array Value} {below : List Frame} {meth : Method} {c : Code} {H : Heap} {locs : List Loc} {cells slots : Nat}
variable {D : va_G} {A : Nat → Prop} {own : String} {cc : ByteArray} {nL F L : Nat} {S : Type} {W1 : S → va_W} {pc : Nat} {ls : Array Slot}
theorem zxreti {post : Int32 ⊕ Nat → S → Prop} {u : S} {v : Int32} (X : zx p s m args meth c R own cc (some .int) nL F L) (hlocks : meth.locks = false) (hp : post (.inl v) u) (hP : va_P D zcl (W1 u) H) (hD : va_D A (W1 u)) (hS : va_S A s.heap H locs) (hdg : decode cc pc = .ok (.ireturn, 1)) :
    W p l e R s m args below meth c H locs cells slots (zMQ below (zQx (fun r => some (.int r)) post D W1 A) args s cells slots A) (F0 m pc ls [.int v]) :=
  zup (Qc := fun _ st o t => o = .returned (some (.int v)) ∧ va_P D zcl (W1 u) t.heap ∧ va_F A st t) (fun o t h => ⟨u, h.2.1, hD, h.2.2, Or.inl ⟨v, h.1, hp⟩⟩)
    (W.iret (v := v) X.1 X.2.1 X.2.2.1 (fun t9 ht9 hW9 => ⟨rfl, by rw [ht9]; exact hP, hS.F ht9⟩) hS.2.2 hdg)
theorem zxretl {post : Int64 ⊕ Nat → S → Prop} {u : S} {v : Int64} (X : zx p s m args meth c R own cc (some .long) nL F L) (hlocks : meth.locks = false) (hp : post (.inl v) u) (hP : va_P D zcl (W1 u) H) (hD : va_D A (W1 u)) (hS : va_S A s.heap H locs) (hdg : decode cc pc = .ok (.lreturn, 1)) :
    W p l e R s m args below meth c H locs cells slots (zMQ below (zQx (fun r => some (.long r)) post D W1 A) args s cells slots A) (F0 m pc ls [.long v]) :=
  zup (Qc := fun _ st o t => o = .returned (some (.long v)) ∧ va_P D zcl (W1 u) t.heap ∧ va_F A st t) (fun o t h => ⟨u, h.2.1, hD, h.2.2, Or.inl ⟨v, h.1, hp⟩⟩)
    (W.lret (v := v) X.1 X.2.1 X.2.2.1 (fun t9 ht9 hW9 => ⟨rfl, by rw [ht9]; exact hP, hS.F ht9⟩) hS.2.2 hdg)
theorem zxretv {post : Unit ⊕ Nat → S → Prop} {u : S} (X : zx p s m args meth c R own cc none nL F L) (hlocks : meth.locks = false) (hp : post (.inl ()) u) (hP : va_P D zcl (W1 u) H) (hD : va_D A (W1 u)) (hS : va_S A s.heap H locs) (hdg : decode cc pc = .ok (.return_, 1)) :
    W p l e R s m args below meth c H locs cells slots (zMQ below (zQx (fun _ => none) post D W1 A) args s cells slots A) (F0 m pc ls []) :=
  zup (Qc := fun _ st o t => o = .returned none ∧ va_P D zcl (W1 u) t.heap ∧ va_F A st t) (fun o t h => ⟨u, h.2.1, hD, h.2.2, Or.inl ⟨(), h.1, hp⟩⟩)
    (W.vret X.1 X.2.1 X.2.2.1 (fun t9 ht9 hW9 => ⟨rfl, by rw [ht9]; exact hP, hS.F ht9⟩) hS.2.2 hdg)
end ZRET
section ZT
variable {p : Program} {l : Launch} {e : Env} {R : Room} {s : State} {m : MethodId} {args : Array Value} {below : List Frame} {meth : Method} {c : Code} {H : Heap} {locs : List Loc} {cells slots : Nat} {Q : State → Prop}
variable {dC : Nat → ClassId} {dI : Nat → Nat → Nat} {cB cI cL : ClassId} {A : Nat → Prop} {own : String} {cc : ByteArray} {ret0 : Option FieldType} {nL F L : Nat}
/-- 'throw new E("text")' in a method without handlers: the method ends, all that lay in the heap lies there still -/
theorem zthrow (htr : l.stackTraces = false) (X : zx p s m args meth c R own cc ret0 nL F L) (zz : zk dC dI cB cI cL A s) (hnh : c.exceptionTable.isEmpty = true) (hAs : ∀ q, A q → ∀ cell, s.heap[q]? = some cell → cell.vm.isStatics = false) (hA : ∀ q, s.heap.size ≤ q → A q)
    (hS : va_S A s.heap H locs) (k : Nat) {ik is ic : Nat} {text : String} (hk : Cond.classLink own ik (zE k) ∈ ztb) (hini : Cond.initialized (zE k) ∈ ztb) (hst : (own, is, text) ∈ zSt) (hat : (zown own ic (zE k) (zIx k) (zBx k)).all zhas = true)
    (hfit : Bundle.fit (zE k) = true ∧ zCdec (zIx k) (zBx k))
    {pc : Nat} {ls : Array Slot} {lv : List (Nat × Value)} (hls : lv_has ls nL lv) {rest : List Value} {Qc : Array Value → State → Outcome → State → Prop} {C Z : Nat}
    (d0 : decode cc pc = .ok (.new ik, 3)) (d3 : decode cc (pc + 3) = .ok (.dup, 1)) (d4 : decode cc (pc + 4) = .ok (.ldc is, 2)) (d6 : decode cc (pc + 6) = .ok (.invokespecial ic, 3)) (d9 : decode cc (pc + 9) = .ok (.athrow, 1))
    (hRf : 6 ≤ R.frames) (hRl : (rest.map fun v => v.category).sum + 90 ≤ R.locals) (hRc : C ≤ R.cells) (hRz : Z ≤ R.slots) (hC : cells + 1 ≤ C) (hZ : slots + 6 ≤ Z)
    (kk : ∀ (t : State) (q : Addr), H.size ≤ t.heap.size → (∀ q' : Nat, q' < H.size → t.heap[q']? = H[q']?) → zthr k q s t → Qc args s (.threw q) t) :
    W p l e R s m args below meth c H locs cells slots (zMQ below Qc args s C Z A) (F0 m pc ls rest) := by
  obtain ⟨hx, hb, hr, hml, hown, hts, hlocks, -, -⟩ := X
  intro T hT X0
  have hat' := zatoms hat hts zz
  have hins : (Cond.instantiable (zE k) 6).before args s = true := hat' _ (by simp [zown])
  obtain ⟨vm₁, cX, kX, hfX, hkX, -, -, X₁, st1⟩ := X0.newCold hx (own := own) (C := zE k) (index := ik) (n := 6) hown (hts _ hk) hins (hts _ hini) (g := F0 m pc ls rest) rfl (by rw [hb]; exact d0) (by omega) (by omega)
  generalize hT1 : (T.setVm vm₁).pushCell { cls := cX, slots := kX.instanceTypes.map defaultValue, vm := .none } = T1 at X₁ st1
  have hcellA : T1.heap[T.heap.size]? = some (freshCell cX kX) := by rw [← hT1]; exact State.heap_pushCell_size _ _
  have hsz1 : T1.heap.size = T.heap.size + 1 := by rw [← hT1]; simp [State.pushCell, State.setVm]
  have hold1 : ∀ q : Nat, q < T.heap.size → T1.heap[q]? = T.heap[q]? := by
    intro q hq
    rw [← hT1]
    simp [State.pushCell, State.setVm, Array.getElem?_push, Nat.ne_of_lt hq]
  obtain ⟨sa, hsr, hev⟩ := zz.2.2.2 _ hst
  have hHT : s.heap.size ≤ T.heap.size := by rw [hT]; exact hS.1
  have hlocs : ∀ x ∈ locs, ∀ cell, s.heap[x.base]? = some cell → cell.vm.isStatics = false := fun x hx' cell hcell => hAs _ (hS.2.2 x hx') cell hcell
  obtain ⟨U, hsteps, hrun, hend, hW, hsame, ⟨ce, hce, hcv, hcc⟩, hUs, hUo⟩ := zctor X₁ hx (zoff X0.admits htr) (own := own) (cls := zE k) (ix := zIx k) (bx := zBx k) (ic := ic) hown hfit.1 hfit.2 hat' hlocs hfX hkX hcellA hHT (msg := .ref sa) rfl
    (g := { method := m, pc := pc + 6, locals := ls, stack := .ref sa :: .ref T.heap.size :: .ref T.heap.size :: rest, locked := none }) rfl (by rw [hml]; exact hls.1) rfl rfl (rest := rest) rfl (by rw [hb]; exact d6) (by rw [hb]; exact d9)
    (fun x hx' => by
      have he : c.exceptionTable.toList = [] := by simpa using hnh
      rw [he] at hx'
      cases hx')
    (by omega) (by
      have h1 : (Value.ref T.heap.size).category = 1 := rfl
      show 2 * 0 + _ + _ ≤ _
      simp only [List.map_cons, List.sum_cons, h1]; omega) hlocks
  refine ⟨U, st1 _ ?_, .threw T.heap.size, hrun, hend, ?_, locs, ⟨hW, hsame.mono (by omega) (by omega)⟩, fun q hq => hS.2.2 q hq⟩
  · show Steps p.tables e below (T1.setTop { method := m, pc := pc + 3, locals := ls, stack := .ref T.heap.size :: rest, locked := none }) _
    have d3' : decode c.code (pc + 3) = .ok (.dup, 1) := by rw [hb]; exact d3
    jvm_step X₁.here [X₁.here.top, hx, d3', Value.category]
    exact X₁.ldcString hx (own := own) (text := text) (index := is) (a := sa) hown hsr hev
      (g := { method := m, pc := pc + 4, locals := ls, stack := .ref T.heap.size :: .ref T.heap.size :: rest, locked := none }) rfl (by rw [hb]; exact d4) _ hsteps
  · refine kk U _ ?_ ?_ ⟨hHT, ce, hce, hcv, by rw [hcc]; exact hfX⟩
    · rw [← hT, hUs, hsz1]; omega
    · intro q' hq'
      rw [← hT] at hq' ⊢
      rw [hUo q' (Nat.ne_of_lt hq'), hold1 q' hq']
/-- the same, the text by a wide index, in a method without handlers: the method ends, all that lay in the heap lies there still -/
theorem zthrowW (htr : l.stackTraces = false) (X : zx p s m args meth c R own cc ret0 nL F L) (zz : zk dC dI cB cI cL A s) (hnh : c.exceptionTable.isEmpty = true) (hAs : ∀ q, A q → ∀ cell, s.heap[q]? = some cell → cell.vm.isStatics = false) (hA : ∀ q, s.heap.size ≤ q → A q)
    (hS : va_S A s.heap H locs) (k : Nat) {ik is ic : Nat} {text : String} (hk : Cond.classLink own ik (zE k) ∈ ztb) (hini : Cond.initialized (zE k) ∈ ztb) (hst : (own, is, text) ∈ zSt) (hat : (zown own ic (zE k) (zIx k) (zBx k)).all zhas = true)
    (hfit : Bundle.fit (zE k) = true ∧ zCdec (zIx k) (zBx k))
    {pc : Nat} {ls : Array Slot} {lv : List (Nat × Value)} (hls : lv_has ls nL lv) {rest : List Value} {Qc : Array Value → State → Outcome → State → Prop} {C Z : Nat}
    (d0 : decode cc pc = .ok (.new ik, 3)) (d3 : decode cc (pc + 3) = .ok (.dup, 1)) (d4 : decode cc (pc + 4) = .ok (.ldc_w is, 3)) (d6 : decode cc (pc + 7) = .ok (.invokespecial ic, 3)) (d9 : decode cc (pc + 10) = .ok (.athrow, 1))
    (hRf : 6 ≤ R.frames) (hRl : (rest.map fun v => v.category).sum + 90 ≤ R.locals) (hRc : C ≤ R.cells) (hRz : Z ≤ R.slots) (hC : cells + 1 ≤ C) (hZ : slots + 6 ≤ Z)
    (kk : ∀ (t : State) (q : Addr), H.size ≤ t.heap.size → (∀ q' : Nat, q' < H.size → t.heap[q']? = H[q']?) → zthr k q s t → Qc args s (.threw q) t) :
    W p l e R s m args below meth c H locs cells slots (zMQ below Qc args s C Z A) (F0 m pc ls rest) := by
  obtain ⟨hx, hb, hr, hml, hown, hts, hlocks, -, -⟩ := X
  intro T hT X0
  have hat' := zatoms hat hts zz
  have hins : (Cond.instantiable (zE k) 6).before args s = true := hat' _ (by simp [zown])
  obtain ⟨vm₁, cX, kX, hfX, hkX, -, -, X₁, st1⟩ := X0.newCold hx (own := own) (C := zE k) (index := ik) (n := 6) hown (hts _ hk) hins (hts _ hini) (g := F0 m pc ls rest) rfl (by rw [hb]; exact d0) (by omega) (by omega)
  generalize hT1 : (T.setVm vm₁).pushCell { cls := cX, slots := kX.instanceTypes.map defaultValue, vm := .none } = T1 at X₁ st1
  have hcellA : T1.heap[T.heap.size]? = some (freshCell cX kX) := by rw [← hT1]; exact State.heap_pushCell_size _ _
  have hsz1 : T1.heap.size = T.heap.size + 1 := by rw [← hT1]; simp [State.pushCell, State.setVm]
  have hold1 : ∀ q : Nat, q < T.heap.size → T1.heap[q]? = T.heap[q]? := by
    intro q hq
    rw [← hT1]
    simp [State.pushCell, State.setVm, Array.getElem?_push, Nat.ne_of_lt hq]
  obtain ⟨sa, hsr, hev⟩ := zz.2.2.2 _ hst
  have hHT : s.heap.size ≤ T.heap.size := by rw [hT]; exact hS.1
  have hlocs : ∀ x ∈ locs, ∀ cell, s.heap[x.base]? = some cell → cell.vm.isStatics = false := fun x hx' cell hcell => hAs _ (hS.2.2 x hx') cell hcell
  obtain ⟨U, hsteps, hrun, hend, hW, hsame, ⟨ce, hce, hcv, hcc⟩, hUs, hUo⟩ := zctor X₁ hx (zoff X0.admits htr) (own := own) (cls := zE k) (ix := zIx k) (bx := zBx k) (ic := ic) hown hfit.1 hfit.2 hat' hlocs hfX hkX hcellA hHT (msg := .ref sa) rfl
    (g := { method := m, pc := pc + 7, locals := ls, stack := .ref sa :: .ref T.heap.size :: .ref T.heap.size :: rest, locked := none }) rfl (by rw [hml]; exact hls.1) rfl rfl (rest := rest) rfl (by rw [hb]; exact d6) (by rw [hb]; exact d9)
    (fun x hx' => by
      have he : c.exceptionTable.toList = [] := by simpa using hnh
      rw [he] at hx'
      cases hx')
    (by omega) (by
      have h1 : (Value.ref T.heap.size).category = 1 := rfl
      show 2 * 0 + _ + _ ≤ _
      simp only [List.map_cons, List.sum_cons, h1]; omega) hlocks
  refine ⟨U, st1 _ ?_, .threw T.heap.size, hrun, hend, ?_, locs, ⟨hW, hsame.mono (by omega) (by omega)⟩, fun q hq => hS.2.2 q hq⟩
  · show Steps p.tables e below (T1.setTop { method := m, pc := pc + 3, locals := ls, stack := .ref T.heap.size :: rest, locked := none }) _
    have d3' : decode c.code (pc + 3) = .ok (.dup, 1) := by rw [hb]; exact d3
    jvm_step X₁.here [X₁.here.top, hx, d3', Value.category]
    exact X₁.ldcStringW hx (own := own) (text := text) (index := is) (a := sa) hown hsr hev
      (g := { method := m, pc := pc + 4, locals := ls, stack := .ref T.heap.size :: .ref T.heap.size :: rest, locked := none }) rfl (by rw [hb]; exact d4) _ hsteps
  · refine kk U _ ?_ ?_ ⟨hHT, ce, hce, hcv, by rw [hcc]; exact hfX⟩
    · rw [← hT, hUs, hsz1]; omega
    · intro q' hq'
      rw [← hT] at hq' ⊢
      rw [hUo q' (Nat.ne_of_lt hq'), hold1 q' hq']
end ZT
section ZC
variable {p : Program} {l : Launch} {e : Env} {R : Room} {s : State} {m : MethodId} {args : Array Value} {below : List Frame} {meth : Method} {c : Code} {H : Heap} {locs : List Loc} {cells slots : Nat} {Q : State → Prop}
variable {dC : Nat → ClassId} {dI : Nat → Nat → Nat} {cB cI cL : ClassId} {A : Nat → Prop} {own : String} {cc : ByteArray} {ret0 : Option FieldType} {nL F L : Nat} {y : MethodName} {bytes : ByteArray} {maxL : Nat} {ret : Option FieldType} {rm : Room} {Pc : Array Value → State → Prop} {Qc : Array Value → State → Outcome → State → Prop} {mc ms n idx : Nat} {b : Addr} {As rest : List Value} {wc wr ws : va_W} {pc : Nat} {ls : Array Slot} {lv : List (Nat × Value)} {st0 : List Value} {free : Addr → Prop}
theorem zenter {wds : List Cond} {len : Nat} {U : State} (X : Stand p l e R s m args below meth c U locs cells slots) {g : JFrame} {ig : Instr} (hg : g.method = m) (hsize : g.locals.size = c.maxLocals) (hdg : decode c.code g.pc = .ok (ig, len))
    (hM : zMet l y wds rm Pc Qc mc ms free) (hbl : FrameBlind Pc) {mk : MethodId} (hn : U.methodNamed? y = some mk) {a : Array Value} (hPc : Pc a U) (hws : ∀ w ∈ wds, w.before a U = true) (hcode : (Cond.code y bytes maxL ret).before a U = true) (hini : (Cond.initialized y.cls).before a U = true)
    (hrc : rm.cells = mc) (hrs : rm.slots = ms) (hframes : rm.frames + 1 ≤ R.frames) (hW : 2 * g.monitorRoom + (g.stack.map fun v => v.category).sum ≤ 8) (hlocals : 8 + (maxL + 11) + rm.locals ≤ R.locals) (hcells : cells + mc ≤ R.cells) (hslots : slots + ms ≤ R.slots) :
    ∃ (o : Outcome) (t T' : State) (L : List Loc), Qc a (U.calling g mk a) o t ∧ (∀ q ∈ L, free q.base) ∧ Stand p l e R s m args below meth c T' (locs ++ L) (cells + mc) (slots + ms) ∧ T'.heap = t.heap ∧
      (∀ v, o = .returned v → Steps p.tables e below (doInvoke e (U.setTop g) [] mk a).1 (T'.setTop { g with pc := g.pc + len, stack := v.toList ++ g.stack })) ∧
      (∀ q, o = .threw q → Steps p.tables e below (doInvoke e (U.setTop g) [] mk a).1 ((T'.setTop g).pushFrame (.throwing q))) := by
  obtain ⟨methY, cY, hmY, hcY, -, hlY, -, -, -, -⟩ := Cond.code_spec hn hcode
  obtain ⟨kY, hkY, -⟩ := className_of_methodNamed hn
  have hinitY : kY.init = .initialized := Cond.initialized_spec (findClass_of_methodNamed hn) hkY hini
  have h : At U g.method c below := by rw [hg]; exact X.here
  have h9 : (headSpec wds rm).room = rm := rfl
  have happ : (headSpec wds rm).appliesLoose y e.platform (U.calling g mk a) = true :=
    Spec.appliesLoose_calling (g := g) h hdg hn hkY hinitY (X.room_calling (g := g) (R' := (headSpec wds rm).room) hsize hmY hcY hframes (by rw [hlY, h9]; omega) (by rw [h9, hrc]; exact hcells) (by rw [h9, hrs]; exact hslots)) (atoms_intro hws)
  have hfr : (U.setTop g).frames = [Frame.java g] ++ below := by rw [State.frames_setTop' g h.top, X.tail]; rfl
  obtain ⟨o, t, hsteps, -, hend, hq⟩ := Steps.callFree hM p X.admits X.cas X.clock (acts := []) hfr happ (hbl _ _ _ _ hPc) trivial
  obtain ⟨hq, L, ⟨hW2, hsame⟩, hL⟩ := hq
  rw [hfr] at hend
  cases o with
  | returned v =>
    obtain ⟨T', X', -, -, ht⟩ := X.outOf hg hdg hend hW2 hsame
    refine ⟨_, t, T', L, hq, hL, X', by rw [ht]; rfl, ?_, fun q h => (by cases h)⟩
    intro v' hv
    cases hv
    rw [← ht]
    exact hsteps
  | threw q =>
    obtain ⟨T', X', -, -, ht⟩ := X.outOfThrown hg hend hW2 hsame
    refine ⟨_, t, T', L, hq, hL, X', by rw [ht]; rfl, fun v h => (by cases h), ?_⟩
    intro q' hv
    cases hv
    rw [← ht]
    exact hsteps
def zRunX (p : Program) (l : Launch) (e : Env) (R : Room) (s : State) (m : MethodId) (args : Array Value) (below : List Frame) (meth : Method) (c : Code) (H : Heap) (locs : List Loc) (cells slots mc ms : Nat) (g : JFrame) (rest : List Value) (Qa : State → Outcome → State → Prop) (free : Addr → Prop) : Prop :=
  ∀ T : State, T.heap = H → Stand p l e R s m args below meth c T locs cells slots → ∃ (o : Outcome) (st₀ t T' : State) (L : List Loc), st₀.heap = H ∧ s.WarmedH st₀.vm ∧ Stand p l e R s m args below meth c T' (locs ++ L) (cells + mc) (slots + ms) ∧ (∀ q ∈ L, free q.base) ∧ T'.heap = t.heap ∧ Qa st₀ o t ∧
    (∀ v, o = .returned v → ∀ target, Steps p.tables e below (T'.setTop { g with pc := g.pc + 3, stack := v.toList ++ rest }) target → Steps p.tables e below (T.setTop g) target) ∧
    (∀ q, o = .threw q → Steps p.tables e below (T.setTop g) ((T'.setTop { g with stack := rest }).pushFrame (.throwing q)))
theorem zrunXV (X : zx p s m args meth c R own cc ret0 nL F L) (zz : zk dC dI cB cI cL A s) (hP : va_P (dC, dI) zcl ws H) (hD : va_D A ws) (hS : va_S A s.heap H locs) (hA : ∀ q, s.heap.size ≤ q → A q) (isC : List Nat) (hnd : va_nd isC = true) (hC : isC.map (fun i => ws[i]?) = wc.map some)
    (hM : zMet l y (zw y bytes maxL ret) rm (va_Pc (.ref b :: As) (zpre dC dI cB cI cL H.size wc)) Qc mc ms (va_A wc H.size)) (hy : zy y bytes maxL ret n) (hv : Cond.instanceMethod y ∈ ztb ∧ Cond.selects y.cls y y ∈ ztb) (hl : (Cond.methodLink own idx y).before args s = true) (hls : lv_has ls nL lv)
    (hst : st0 = As.reverse ++ .ref b :: rest) (hn : As.length = n) (hdg : decode cc pc = .ok (.invokevirtual idx, 3)) (hW : 2 * (F0 m pc ls st0).monitorRoom + (rest.map fun v => v.category).sum ≤ 8) (hrc : rm.cells = mc) (hrs : rm.slots = ms) (hR : rm.frames + 1 ≤ R.frames ∧ 8 + (maxL + 11) + rm.locals ≤ R.locals) (hf : cells + mc ≤ R.cells ∧ slots + ms ≤ R.slots)
    (q0 ci : Nat) {fs : List Value} {T : u_T} {k : Nat} (he : wc[q0]? = some (b, .inr (ci, fs))) (hc : zcl[ci]? = some (y.cls, T, k)) :
    zRunX p l e R s m args below meth c H locs cells slots mc ms (F0 m pc ls st0) rest (Qc (Value.ref b :: As).toArray) (va_A wc H.size) := by
  have hp := zpreS (av := .ref b :: As) zz hP hD hS hA isC hnd hC
  have hPc : va_P (dC, dI) zcl wc H := hP.sub isC (by
    have h1 : isC.filterMap (fun i => ws[i]?) = (isC.map (fun i => ws[i]?)).filterMap id := by simp
    rw [h1, hC]; simp)
  obtain ⟨cellB, hcB, hoB, hclB⟩ := va_recv zz.1 hPc (ci := ci) (q0 := q0) hc he
  obtain ⟨hx, hb, hr, hml, hown, hts, hlocks, -, -⟩ := id X
  have hcb := zcb X hy hl hrc hrs hR
  obtain ⟨-, -, -, -, hws, -, hcode, hini, hyn, hlen, hl⟩ := hcb
  intro T hT X0
  obtain ⟨mk, methM, hnamed, hmethM, hstM, habM⟩ := Cond.instanceMethod_spec (hts _ hv.1)
  obtain ⟨methM', cM, hmethM', -, -, -, -, -, -, hsigM⟩ := Cond.code_spec hnamed hcode
  cases hmethM.symm.trans hmethM'
  obtain ⟨c2, r2, m2, q1, q2, q3, q4, kP, hkP, hkPi⟩ := Cond.selects_spec (hts _ hv.2)
  cases hclB.symm.trans q1
  cases (State.methodFound?_of_named hnamed hyn).symm.trans q2
  cases hnamed.symm.trans q3
  have hselP : selectMethod e.platform s.vm cellB.cls mk = .method mk := by rw [Launch.admits_selectMethod X0.admits]; exact q4
  obtain ⟨vm₁, X₁, hstep₁⟩ := X0.invokevirtual hx hown hl hnamed hmethM hstM hkP hkPi hyn (a := b) (cell := cellB) (by rw [hT]; exact hcB)
    (fun z h => by rw [h] at hoB; cases hoB) hselP hmethM habM hkP hkPi (g := F0 m pc ls st0) rfl (argsL := As) (rest := rest) (hn.trans (hlen _ hsigM)) hst (by rw [hb]; exact hdg)
  have hd1 : decode c.code pc = .ok (.invokevirtual idx, 3) := by rw [hb]; exact hdg
  obtain ⟨o, t, T', L, hq, hL, X', hh, hret, hthr⟩ := zenter X₁ (g := { F0 m pc ls st0 with stack := rest }) (ig := .invokevirtual idx) rfl (by rw [hml]; exact hls.1) hd1 hM hp.1 (X₁.named hnamed) (hp.2 (T.setVm vm₁) hT X₁.warmed) (fun w hw => hws w hw _ _ X₁.warmed) (bytes := bytes) (maxL := maxL) (ret := ret)
    (word_at X₁.warmed (Or.inl rfl) hcode) (word_at X₁.warmed (Or.inl (by first | rfl | simp [Cond.onTables, Cond.keeps, Cond.steady])) hini) hrc hrs hR.1 hW hR.2 hf.1 hf.2
  refine ⟨o, _, t, T', L, ?_, ?_, X', hL, hh, hq, ?_, ?_⟩
  · exact hT
  · exact X₁.warmed
  · intro v hv target htg
    exact hstep₁ _ fun acts => by rw [doInvoke_state]; exact (hret v hv).trans htg
  · intro q hv
    exact hstep₁ _ fun acts => by rw [doInvoke_state]; exact hthr q hv
theorem zrunXS (X : zx p s m args meth c R own cc ret0 nL F L) (zz : zk dC dI cB cI cL A s) (hP : va_P (dC, dI) zcl ws H) (hD : va_D A ws) (hS : va_S A s.heap H locs) (hA : ∀ q, s.heap.size ≤ q → A q) (isC : List Nat) (hnd : va_nd isC = true) (hC : isC.map (fun i => ws[i]?) = wc.map some)
    (hM : zMet l y (zw y bytes maxL ret) rm (va_Pc As (zpre dC dI cB cI cL H.size wc)) Qc mc ms (va_A wc H.size)) (hy : zy y bytes maxL ret n) (hv : Cond.static y ∈ ztb) (hl : (Cond.methodLink own idx y).before args s = true) (hls : lv_has ls nL lv)
    (hst : st0 = As.reverse ++ rest) (hn : As.length = n) (hdg : decode cc pc = .ok (.invokestatic idx, 3)) (hW : 2 * (F0 m pc ls st0).monitorRoom + (rest.map fun v => v.category).sum ≤ 8) (hrc : rm.cells = mc) (hrs : rm.slots = ms) (hR : rm.frames + 1 ≤ R.frames ∧ 8 + (maxL + 11) + rm.locals ≤ R.locals) (hf : cells + mc ≤ R.cells ∧ slots + ms ≤ R.slots) :
    zRunX p l e R s m args below meth c H locs cells slots mc ms (F0 m pc ls st0) rest (Qc As.toArray) (va_A wc H.size) := by
  have hp := zpreS (av := As) zz hP hD hS hA isC hnd hC
  obtain ⟨hx, hb, hr, hml, hown, hts, hlocks, -, -⟩ := id X
  have hcb := zcb X hy hl hrc hrs hR
  obtain ⟨-, -, -, -, hws, -, hcode, hini, hyn, hlen, hl⟩ := hcb
  intro T hT X0
  obtain ⟨mk, hnamed⟩ := Cond.code_named hcode
  obtain ⟨methM, cM, hmethM, -, -, -, -, -, -, hsigM⟩ := Cond.code_spec hnamed hcode
  have hstatic : methM.isStatic = true := Cond.static_spec hnamed hmethM (hts _ hv)
  obtain ⟨kP, hkP, -⟩ := className_of_methodNamed hnamed
  have hinitP : kP.init = .initialized := Cond.initialized_spec (findClass_of_methodNamed hnamed) hkP hini
  obtain ⟨vm₁, X₁, hstep₁⟩ := X0.invokestatic hx hown hl hnamed hmethM hstatic hkP hinitP hyn (g := F0 m pc ls st0) rfl (argsL := As) (rest := rest) (hn.trans (hlen _ hsigM)) hst (by rw [hb]; exact hdg)
  have hd1 : decode c.code pc = .ok (.invokestatic idx, 3) := by rw [hb]; exact hdg
  obtain ⟨o, t, T', L, hq, hL, X', hh, hret, hthr⟩ := zenter X₁ (g := { F0 m pc ls st0 with stack := rest }) (ig := .invokestatic idx) rfl (by rw [hml]; exact hls.1) hd1 hM hp.1 (X₁.named hnamed) (hp.2 (T.setVm vm₁) hT X₁.warmed) (fun w hw => hws w hw _ _ X₁.warmed) (bytes := bytes) (maxL := maxL) (ret := ret)
    (word_at X₁.warmed (Or.inl rfl) hcode) (word_at X₁.warmed (Or.inl (by first | rfl | simp [Cond.onTables, Cond.keeps, Cond.steady])) hini) hrc hrs hR.1 hW hR.2 hf.1 hf.2
  refine ⟨o, _, t, T', L, ?_, ?_, X', hL, hh, hq, ?_, ?_⟩
  · exact hT
  · exact X₁.warmed
  · intro v hv target htg
    exact hstep₁ _ fun acts => by rw [doInvoke_state]; exact (hret v hv).trans htg
  · intro q hv
    exact hstep₁ _ fun acts => by rw [doInvoke_state]; exact hthr q hv
theorem zcallX {α S : Type} {mk : α → Option Value} {post : α ⊕ Nat → S → Prop} {W1 : S → va_W} {av : Array Value} {C Z : Nat} {Qd : Array Value → State → Outcome → State → Prop} (hr : zRunX p l e R s m args below meth c H locs cells slots mc ms (F0 m pc ls st0) rest (zQx mk post (dC, dI) W1 (va_A wc H.size) av) (va_A wc H.size))
    (hP : va_P (dC, dI) zcl ws H) (hD : va_D A ws) (hS : va_S A s.heap H locs) (hA : ∀ q, s.heap.size ≤ q → A q) (isC isR : List Nat) (hC : isC.map (fun i => ws[i]?) = wc.map some) (hR : isR.map (fun i => ws[i]?) = wr.map some) (hn : va_nd isR = true) (hdis : ∀ i ∈ isR, i ∉ isC)
    (hnh : c.exceptionTable.isEmpty = true) (hlocks : meth.locks = false) (hC9 : cells + mc ≤ C) (hZ9 : slots + ms ≤ Z)
    (kx : ∀ (k : Nat) (u : S) (t : State) (q : Addr), post (.inr k) u → va_P (dC, dI) zcl (wr ++ W1 u) t.heap → va_D A (wr ++ W1 u) → va_F A s t → zthr k q s t → Qd args s (.threw q) t)
    (kk : ∀ (r : α) (u : S) (H1 : Heap) (locs1 : List Loc), post (.inl r) u → va_P (dC, dI) zcl (wr ++ W1 u) H1 → va_D A (wr ++ W1 u) → va_S A s.heap H1 locs1 → W p l e R s m args below meth c H1 locs1 (cells + mc) (slots + ms) (zMQ below Qd args s C Z A) (F0 m (pc + 3) ls ((mk r).toList ++ rest))) :
    W p l e R s m args below meth c H locs cells slots (zMQ below Qd args s C Z A) (F0 m pc ls st0) := by
  have hF : ∀ q, va_A wc H.size q → A q := va_free hD hS hA isC hC
  intro T hT X0
  obtain ⟨o, st₀, t, T', L, h0, hW0, X', hL, hh, ⟨u, hP1, hD1, hFr, hcase⟩, hret, hthr⟩ := hr T hT X0
  have hk1 : ∀ q : Nat, q < H.size → ¬ va_A wc H.size q → T'.heap[q]? = H[q]? := fun q hq hnq => by rw [hh, hFr.2 q (by rw [h0]; exact hq) hnq, h0]
  have hz1 : H.size ≤ T'.heap.size := by rw [hh, ← h0]; exact hFr.1
  rw [← hh] at hP1
  obtain ⟨hPj, hDj⟩ := va_join hP hD isC isR hC hR hn hdis hk1 hF hP1 hD1
  have hS1 : va_S A s.heap T'.heap (locs ++ L) := by
    refine ⟨Nat.le_trans hS.1 hz1, fun q hq hnq => ?_, fun q hq => ?_⟩
    · rw [hk1 q (Nat.lt_of_lt_of_le hq hS.1) (fun h => hnq (hF q h)), hS.2.1 q hq hnq]
    · rcases List.mem_append.mp hq with h | h
      · exact hS.2.2 q h
      · exact hF _ (hL q h)
  rcases hcase with ⟨r, ho, hpost⟩ | ⟨k, q, ho, hpost, hthrow⟩
  · obtain ⟨t2, a1, b1⟩ := kk r u T'.heap (locs ++ L) hpost hPj hDj hS1 T' rfl X'
    exact ⟨t2, hret _ ho t2 a1, b1⟩
  · have he : c.exceptionTable.toList = [] := by simpa using hnh
    obtain ⟨g1, g2, g3, g4, g5⟩ := X'.leaveThrown q (g := { F0 m pc ls st0 with stack := rest }) rfl rfl rfl (fun x hx' => by rw [he] at hx'; cases hx') hlocks
    refine ⟨T'.setFrames (.throwing q :: below), (hthr q ho).trans g1, .threw q, g2, g3, ?_, locs ++ L, ⟨g4, g5.mono hC9 hZ9⟩, fun z hz => hS1.2.2 z hz⟩
    refine kx k u _ q hpost hPj hDj ⟨hS1.1, fun z hz hnz => hS1.2.1 z hz hnz⟩ ⟨?_, ?_⟩
    · exact Nat.le_trans (by rw [h0]; exact hS.1) hthrow.1
    · obtain ⟨ce, hce, hcv, hcf⟩ := hthrow.2
      refine ⟨ce, ?_, hcv, ?_⟩
      · show T'.heap[q]? = some ce
        rw [hh]; exact hce
      · rw [← hW0.alike.findClass]; exact hcf
end ZC
end
section
theorem zy_W_set : zy y_W_set b_W_set 6 none 2 := ⟨zmem 685 (by decide +kernel) (by decide +kernel), zmem 62 (by decide +kernel) (by decide +kernel), by decide +kernel⟩
theorem zv_W_set : Cond.instanceMethod y_W_set ∈ ztb ∧ Cond.selects y_W_set.cls y_W_set y_W_set ∈ ztb := ⟨zmem 683 (by decide +kernel) (by decide +kernel), zmem 684 (by decide +kernel) (by decide +kernel)⟩
theorem d_W_set_0 : decode b_W_set 0 = .ok (.iload_n 1, 1) := by decide +kernel
theorem d_W_set_1 : decode b_W_set 1 = .ok (.ifCond .lt 12, 3) := by decide +kernel
theorem d_W_set_4 : decode b_W_set 4 = .ok (.iload_n 1, 1) := by decide +kernel
theorem d_W_set_5 : decode b_W_set 5 = .ok (.iconst 3, 1) := by decide +kernel
theorem d_W_set_6 : decode b_W_set 6 = .ok (.if_icmp .gt 7, 3) := by decide +kernel
theorem d_W_set_9 : decode b_W_set 9 = .ok (.iconst 1, 1) := by decide +kernel
theorem d_W_set_10 : decode b_W_set 10 = .ok (.goto 4, 3) := by decide +kernel
theorem d_W_set_13 : decode b_W_set 13 = .ok (.iconst 0, 1) := by decide +kernel
theorem d_W_set_14 : decode b_W_set 14 = .ok (.istore 4, 2) := by decide +kernel
theorem d_W_set_16 : decode b_W_set 16 = .ok (.iload_n 1, 1) := by decide +kernel
theorem d_W_set_17 : decode b_W_set 17 = .ok (.bipush 9, 2) := by decide +kernel
theorem d_W_set_19 : decode b_W_set 19 = .ok (.if_icmp .lt 13, 3) := by decide +kernel
theorem d_W_set_22 : decode b_W_set 22 = .ok (.iload_n 1, 1) := by decide +kernel
theorem d_W_set_23 : decode b_W_set 23 = .ok (.bipush 12, 2) := by decide +kernel
theorem d_W_set_25 : decode b_W_set 25 = .ok (.if_icmp .ge 7, 3) := by decide +kernel
theorem d_W_set_28 : decode b_W_set 28 = .ok (.iconst 1, 1) := by decide +kernel
theorem d_W_set_29 : decode b_W_set 29 = .ok (.goto 4, 3) := by decide +kernel
theorem d_W_set_32 : decode b_W_set 32 = .ok (.iconst 0, 1) := by decide +kernel
theorem d_W_set_33 : decode b_W_set 33 = .ok (.istore 5, 2) := by decide +kernel
theorem d_W_set_35 : decode b_W_set 35 = .ok (.iload 4, 2) := by decide +kernel
theorem d_W_set_37 : decode b_W_set 37 = .ok (.ifCond .ne 18, 3) := by decide +kernel
theorem d_W_set_40 : decode b_W_set 40 = .ok (.iload 5, 2) := by decide +kernel
theorem d_W_set_42 : decode b_W_set 42 = .ok (.ifCond .ne 13, 3) := by decide +kernel
theorem d_W_set_45 : decode b_W_set 45 = .ok (.new 60, 3) := by decide +kernel
theorem d_W_set_48 : decode b_W_set 48 = .ok (.dup, 1) := by decide +kernel
theorem d_W_set_49 : decode b_W_set 49 = .ok (.ldc 203, 2) := by decide +kernel
theorem d_W_set_51 : decode b_W_set 51 = .ok (.invokespecial 64, 3) := by decide +kernel
theorem d_W_set_54 : decode b_W_set 54 = .ok (.athrow, 1) := by decide +kernel
theorem d_W_set_55 : decode b_W_set 55 = .ok (.aload_n 0, 1) := by decide +kernel
theorem d_W_set_56 : decode b_W_set 56 = .ok (.getfield 49, 3) := by decide +kernel
theorem d_W_set_59 : decode b_W_set 59 = .ok (.getfield 205, 3) := by decide +kernel
theorem d_W_set_62 : decode b_W_set 62 = .ok (.iload_n 1, 1) := by decide +kernel
theorem d_W_set_63 : decode b_W_set 63 = .ok (.lload_n 2, 1) := by decide +kernel
theorem d_W_set_64 : decode b_W_set 64 = .ok (.lastore, 1) := by decide +kernel
theorem d_W_set_65 : decode b_W_set 65 = .ok (.return_, 1) := by decide +kernel
theorem zy_W_requireByte : zy y_W_requireByte b_W_requireByte 2 none 1 := ⟨zmem 491 (by decide +kernel) (by decide +kernel), zmem 62 (by decide +kernel) (by decide +kernel), by decide +kernel⟩
theorem zv_W_requireByte : Cond.instanceMethod y_W_requireByte ∈ ztb ∧ Cond.selects y_W_requireByte.cls y_W_requireByte y_W_requireByte ∈ ztb := ⟨zmem 490 (by decide +kernel) (by decide +kernel), zmem 2 (by decide +kernel) (by decide +kernel)⟩
theorem d_W_requireByte_0 : decode b_W_requireByte 0 = .ok (.iload_n 1, 1) := by decide +kernel
theorem d_W_requireByte_1 : decode b_W_requireByte 1 = .ok (.ifCond .lt 14, 3) := by decide +kernel
theorem d_W_requireByte_4 : decode b_W_requireByte 4 = .ok (.iload_n 1, 1) := by decide +kernel
theorem d_W_requireByte_5 : decode b_W_requireByte 5 = .ok (.aload_n 0, 1) := by decide +kernel
theorem d_W_requireByte_6 : decode b_W_requireByte 6 = .ok (.getfield 12, 3) := by decide +kernel
theorem d_W_requireByte_9 : decode b_W_requireByte 9 = .ok (.getfield 95, 3) := by decide +kernel
theorem d_W_requireByte_12 : decode b_W_requireByte 12 = .ok (.if_icmp .lt 14, 3) := by decide +kernel
theorem d_W_requireByte_15 : decode b_W_requireByte 15 = .ok (.new 164, 3) := by decide +kernel
theorem d_W_requireByte_18 : decode b_W_requireByte 18 = .ok (.dup, 1) := by decide +kernel
theorem d_W_requireByte_19 : decode b_W_requireByte 19 = .ok (.ldc_w 309, 3) := by decide +kernel
theorem d_W_requireByte_22 : decode b_W_requireByte 22 = .ok (.invokespecial 168, 3) := by decide +kernel
theorem d_W_requireByte_25 : decode b_W_requireByte 25 = .ok (.athrow, 1) := by decide +kernel
theorem d_W_requireByte_26 : decode b_W_requireByte 26 = .ok (.return_, 1) := by decide +kernel
theorem zy_W_requirePlace : zy y_W_requirePlace b_W_requirePlace 2 none 1 := ⟨zmem 551 (by decide +kernel) (by decide +kernel), zmem 62 (by decide +kernel) (by decide +kernel), by decide +kernel⟩
theorem zv_W_requirePlace : Cond.instanceMethod y_W_requirePlace ∈ ztb ∧ Cond.selects y_W_requirePlace.cls y_W_requirePlace y_W_requirePlace ∈ ztb := ⟨zmem 550 (by decide +kernel) (by decide +kernel), zmem 3 (by decide +kernel) (by decide +kernel)⟩
theorem d_W_requirePlace_0 : decode b_W_requirePlace 0 = .ok (.iload_n 1, 1) := by decide +kernel
theorem d_W_requirePlace_1 : decode b_W_requirePlace 1 = .ok (.ifCond .lt 14, 3) := by decide +kernel
theorem d_W_requirePlace_4 : decode b_W_requirePlace 4 = .ok (.iload_n 1, 1) := by decide +kernel
theorem d_W_requirePlace_5 : decode b_W_requirePlace 5 = .ok (.aload_n 0, 1) := by decide +kernel
theorem d_W_requirePlace_6 : decode b_W_requirePlace 6 = .ok (.getfield 12, 3) := by decide +kernel
theorem d_W_requirePlace_9 : decode b_W_requirePlace 9 = .ok (.getfield 95, 3) := by decide +kernel
theorem d_W_requirePlace_12 : decode b_W_requirePlace 12 = .ok (.if_icmp .le 14, 3) := by decide +kernel
theorem d_W_requirePlace_15 : decode b_W_requirePlace 15 = .ok (.new 60, 3) := by decide +kernel
theorem d_W_requirePlace_18 : decode b_W_requirePlace 18 = .ok (.dup, 1) := by decide +kernel
theorem d_W_requirePlace_19 : decode b_W_requirePlace 19 = .ok (.ldc_w 311, 3) := by decide +kernel
theorem d_W_requirePlace_22 : decode b_W_requirePlace 22 = .ok (.invokespecial 64, 3) := by decide +kernel
theorem d_W_requirePlace_25 : decode b_W_requirePlace 25 = .ok (.athrow, 1) := by decide +kernel
theorem d_W_requirePlace_26 : decode b_W_requirePlace 26 = .ok (.return_, 1) := by decide +kernel
theorem zy_W_requireNames : zy y_W_requireNames b_W_requireNames 1 none 1 := ⟨zmem 783 (by decide +kernel) (by decide +kernel), zmem 62 (by decide +kernel) (by decide +kernel), by decide +kernel⟩
theorem zv_W_requireNames : Cond.static y_W_requireNames ∈ ztb := zmem 782 (by decide +kernel) (by decide +kernel)
theorem d_W_requireNames_0 : decode b_W_requireNames 0 = .ok (.iload_n 0, 1) := by decide +kernel
theorem d_W_requireNames_1 : decode b_W_requireNames 1 = .ok (.ifCond .lt 9, 3) := by decide +kernel
theorem d_W_requireNames_4 : decode b_W_requireNames 4 = .ok (.iload_n 0, 1) := by decide +kernel
theorem d_W_requireNames_5 : decode b_W_requireNames 5 = .ok (.bipush 20, 2) := by decide +kernel
theorem d_W_requireNames_7 : decode b_W_requireNames 7 = .ok (.if_icmp .le 14, 3) := by decide +kernel
theorem d_W_requireNames_10 : decode b_W_requireNames 10 = .ok (.new 60, 3) := by decide +kernel
theorem d_W_requireNames_13 : decode b_W_requireNames 13 = .ok (.dup, 1) := by decide +kernel
theorem d_W_requireNames_14 : decode b_W_requireNames 14 = .ok (.ldc_w 313, 3) := by decide +kernel
theorem d_W_requireNames_17 : decode b_W_requireNames 17 = .ok (.invokespecial 64, 3) := by decide +kernel
theorem d_W_requireNames_20 : decode b_W_requireNames 20 = .ok (.athrow, 1) := by decide +kernel
theorem d_W_requireNames_21 : decode b_W_requireNames 21 = .ok (.return_, 1) := by decide +kernel
theorem zy_T_byteAt : zy y_T_byteAt b_T_byteAt 2 (some .int) 1 := ⟨zmem 511 (by decide +kernel) (by decide +kernel), zmem 63 (by decide +kernel) (by decide +kernel), by decide +kernel⟩
theorem zv_T_byteAt : Cond.instanceMethod y_T_byteAt ∈ ztb ∧ Cond.selects y_T_byteAt.cls y_T_byteAt y_T_byteAt ∈ ztb := ⟨zmem 509 (by decide +kernel) (by decide +kernel), zmem 510 (by decide +kernel) (by decide +kernel)⟩
theorem d_T_byteAt_0 : decode b_T_byteAt 0 = .ok (.iload_n 1, 1) := by decide +kernel
theorem d_T_byteAt_1 : decode b_T_byteAt 1 = .ok (.ifCond .lt 25, 3) := by decide +kernel
theorem d_T_byteAt_4 : decode b_T_byteAt 4 = .ok (.iload_n 1, 1) := by decide +kernel
theorem d_T_byteAt_5 : decode b_T_byteAt 5 = .ok (.aload_n 0, 1) := by decide +kernel
theorem d_T_byteAt_6 : decode b_T_byteAt 6 = .ok (.getfield 9, 3) := by decide +kernel
theorem d_T_byteAt_9 : decode b_T_byteAt 9 = .ok (.arraylength, 1) := by decide +kernel
theorem d_T_byteAt_10 : decode b_T_byteAt 10 = .ok (.if_icmp .ge 16, 3) := by decide +kernel
theorem d_T_byteAt_13 : decode b_T_byteAt 13 = .ok (.aload_n 0, 1) := by decide +kernel
theorem d_T_byteAt_14 : decode b_T_byteAt 14 = .ok (.getfield 9, 3) := by decide +kernel
theorem d_T_byteAt_17 : decode b_T_byteAt 17 = .ok (.iload_n 1, 1) := by decide +kernel
theorem d_T_byteAt_18 : decode b_T_byteAt 18 = .ok (.baload, 1) := by decide +kernel
theorem d_T_byteAt_19 : decode b_T_byteAt 19 = .ok (.sipush 255, 3) := by decide +kernel
theorem d_T_byteAt_22 : decode b_T_byteAt 22 = .ok (.iand, 1) := by decide +kernel
theorem d_T_byteAt_23 : decode b_T_byteAt 23 = .ok (.goto 4, 3) := by decide +kernel
theorem d_T_byteAt_26 : decode b_T_byteAt 26 = .ok (.iconst 0, 1) := by decide +kernel
theorem d_T_byteAt_27 : decode b_T_byteAt 27 = .ok (.ireturn, 1) := by decide +kernel
theorem zy_W_at : zy y_W_at b_W_at 2 (some .int) 1 := ⟨zmem 487 (by decide +kernel) (by decide +kernel), zmem 62 (by decide +kernel) (by decide +kernel), by decide +kernel⟩
theorem zv_W_at : Cond.instanceMethod y_W_at ∈ ztb ∧ Cond.selects y_W_at.cls y_W_at y_W_at ∈ ztb := ⟨zmem 485 (by decide +kernel) (by decide +kernel), zmem 486 (by decide +kernel) (by decide +kernel)⟩
theorem d_W_at_0 : decode b_W_at 0 = .ok (.aload_n 0, 1) := by decide +kernel
theorem d_W_at_1 : decode b_W_at 1 = .ok (.iload_n 1, 1) := by decide +kernel
theorem d_W_at_2 : decode b_W_at 2 = .ok (.invokevirtual 106, 3) := by decide +kernel
theorem d_W_at_5 : decode b_W_at 5 = .ok (.aload_n 0, 1) := by decide +kernel
theorem d_W_at_6 : decode b_W_at 6 = .ok (.getfield 12, 3) := by decide +kernel
theorem d_W_at_9 : decode b_W_at 9 = .ok (.iload_n 1, 1) := by decide +kernel
theorem d_W_at_10 : decode b_W_at 10 = .ok (.invokevirtual 110, 3) := by decide +kernel
theorem d_W_at_13 : decode b_W_at 13 = .ok (.ireturn, 1) := by decide +kernel
theorem zini_1 : Cond.initialized (zE 1) ∈ ztb := zmem 77 (by decide +kernel) (by decide +kernel)
theorem zfit_1 : Bundle.fit (zE 1) = true ∧ zCdec (zIx 1) (zBx 1) := ⟨by decide +kernel, by decide +kernel, by decide +kernel, by decide +kernel, by decide +kernel⟩
theorem zat_W_64 : (zown R_W 64 (zE 1) (zIx 1) (zBx 1)).all zhas = true := by decide +kernel
theorem zini_3 : Cond.initialized (zE 3) ∈ ztb := zmem 79 (by decide +kernel) (by decide +kernel)
theorem zfit_3 : Bundle.fit (zE 3) = true ∧ zCdec (zIx 3) (zBx 3) := ⟨by decide +kernel, by decide +kernel, by decide +kernel, by decide +kernel, by decide +kernel⟩
theorem zat_W_168 : (zown R_W 168 (zE 3) (zIx 3) (zBx 3)).all zhas = true := by decide +kernel
theorem znest_D_88 : Cond.fieldLinkNest R_D 88 "WireCodec" "SHAPES" "[I" "WireCodec" ∈ zN := zmemN 752 (by decide +kernel) rfl
theorem znest_D_92 : Cond.methodLinkNest R_D 92 y_W_isNumber "WireCodec" ∈ zN := zmemN 733 (by decide +kernel) rfl
theorem znest_W_11 : Cond.methodLinkNest R_W 11 y_T_init "WireCodec" ∈ zN := zmemN 91 (by decide +kernel) rfl
theorem znest_W_27 : Cond.methodLinkNest R_W 27 y_G_init "WireCodec" ∈ zN := zmemN 136 (by decide +kernel) rfl
theorem znest_W_34 : Cond.methodLinkNest R_W 34 y_F_init "WireCodec" ∈ zN := zmemN 171 (by decide +kernel) rfl
theorem znest_W_41 : Cond.methodLinkNest R_W 41 y_H_init "WireCodec" ∈ zN := zmemN 207 (by decide +kernel) rfl
theorem znest_W_48 : Cond.methodLinkNest R_W 48 y_D_init "WireCodec" ∈ zN := zmemN 218 (by decide +kernel) rfl
theorem znest_F_29 : Cond.fieldLinkNest R_F 29 "WireCodec" "SHAPES" "[I" "WireCodec" ∈ zN := zmemN 579 (by decide +kernel) rfl
theorem zin_W_49 : Cond.fieldLink R_W 49 "WireCodec" "drafted" "LWireCodec$Draft;" ∈ ztb := zmem 282 (by decide +kernel) (by decide +kernel)
theorem zin_W_205 : Cond.fieldLink R_W 205 "WireCodec$Draft" "parts" "[J" ∈ ztb := zmem 223 (by decide +kernel) (by decide +kernel)
theorem zin_W_60 : Cond.classLink R_W 60 (zE 1) ∈ ztb := zmem 340 (by decide +kernel) (by decide +kernel)
theorem zin_W_164 : Cond.classLink R_W 164 (zE 3) ∈ ztb := zmem 492 (by decide +kernel) (by decide +kernel)
theorem zin_W_12 : Cond.fieldLink R_W 12 "WireCodec" "tape" "LWireCodec$Tape;" ∈ ztb := zmem 277 (by decide +kernel) (by decide +kernel)
theorem zin_W_95 : Cond.fieldLink R_W 95 "WireCodec$Tape" "length" "I" ∈ ztb := zmem 97 (by decide +kernel) (by decide +kernel)
theorem zin_T_9 : Cond.fieldLink R_T 9 "WireCodec$Tape" "bytes" "[B" ∈ ztb := zmem 95 (by decide +kernel) (by decide +kernel)
theorem zin_W_106 : Cond.methodLink R_W 106 y_W_requireByte ∈ ztb := zmem 488 (by decide +kernel) (by decide +kernel)
theorem zin_W_110 : Cond.methodLink R_W 110 y_T_byteAt ∈ ztb := zmem 508 (by decide +kernel) (by decide +kernel)
noncomputable def g_W_set_w64 (sD_64 : zD) : Option ((Unit ⊕ Nat) × zD) := some (.inl (), sD_64)
noncomputable def g_W_set_55 (sD : zD) (v1 : Int32) (v2 : Int64) : Option ((Unit ⊕ Nat) × zD) := zg (vp_in v1 12) (g_W_set_w64 (zD_parts' sD (vp_updL (zD_parts sD) v1.toNatClampNeg v2)))
noncomputable def g_W_set_33 (sD : zD) (v1 : Int32) (v2 : Int64) (v4 : Int32) (s0 : Int32) : Option ((Unit ⊕ Nat) × zD) := if v4 = (0 : Int32) then (if s0 = (0 : Int32) then (some (.inr 1, sD)) else (g_W_set_55 sD v1 v2)) else (g_W_set_55 sD v1 v2)
noncomputable def g_W_set_32 (sD : zD) (v1 : Int32) (v2 : Int64) (v4 : Int32) : Option ((Unit ⊕ Nat) × zD) := g_W_set_33 sD v1 v2 v4 (0 : Int32)
noncomputable def g_W_set_14 (sD : zD) (v1 : Int32) (v2 : Int64) (s0 : Int32) : Option ((Unit ⊕ Nat) × zD) := if v1 < (9 : Int32) then (g_W_set_32 sD v1 v2 s0) else (if (12 : Int32) ≤ v1 then (g_W_set_32 sD v1 v2 s0) else (g_W_set_33 sD v1 v2 s0 (1 : Int32)))
noncomputable def g_W_set_13 (sD : zD) (v1 : Int32) (v2 : Int64) : Option ((Unit ⊕ Nat) × zD) := g_W_set_14 sD v1 v2 (0 : Int32)
noncomputable def g_W_set (sD : zD) (v1 : Int32) (v2 : Int64) : Option ((Unit ⊕ Nat) × zD) := if v1 < (0 : Int32) then (g_W_set_13 sD v1 v2) else (if (3 : Int32) < v1 then (g_W_set_13 sD v1 v2) else (g_W_set_14 sD v1 v2 (1 : Int32)))
def q_W_set (dC : Nat → ClassId) (dI : Nat → Nat → Nat) (cB cI cL : ClassId) (A : Nat → Prop) (adW : Nat) (adD : Nat) (adD_parts : Nat) (adD_bytes : Nat) (adD_lows : Nat) (adD_highs : Nat) (adT : Nat) (adR : Nat) (adG : Nat) (adF : Nat) (adH : Nat) (adP : Nat) (a : (Unit ⊕ Nat) × zD) : Array Value → State → Outcome → State → Prop := zQx (α := Unit) (fun _ => none) (fun r (u : zD) => (r, u) = a) (dC, dI) (fun u => (zwW adW adT adR adG adF adH adD adP ++ zwD adD adD_parts adD_bytes adD_lows adD_highs cB cI cL u)) A
set_option maxRecDepth 100000 in
set_option maxHeartbeats 4000000 in
theorem k_W_set_55 {p : Program} {l : Launch} {e : Env} {R : Room} {s : State} {m : MethodId} {args : Array Value} {below : List Frame} {meth : Method} {c : Code} {dC : Nat → ClassId} {dI : Nat → Nat → Nat} {cB cI cL : ClassId} {A : Nat → Prop} {adT adR adG adF adH adP : Nat} (X : zx p s m args meth c R R_W b_W_set none 6 6 98) (hA : ∀ q, s.heap.size ≤ q → A q) (zz : zk dC dI cB cI cL A s) (htr : l.stackTraces = false) (hnh : c.exceptionTable.isEmpty = true) (hAs : ∀ q, A q → ∀ cell, s.heap[q]? = some cell → cell.vm.isStatics = false) (hRc : 1 ≤ R.cells) (hRz : 6 ≤ R.slots)  (sD : zD) (v1 : Int32) (v2 : Int64) (a : (Unit ⊕ Nat) × zD) (hG : g_W_set_55 sD v1 v2 = some a) (adW adD adD_parts adD_bytes adD_lows adD_highs : Nat) (H : Heap) (locs : List Loc) (hP : va_P (dC, dI) zcl (zwW adW adT adR adG adF adH adD adP ++ zwD adD adD_parts adD_bytes adD_lows adD_highs cB cI cL sD) H) (hD : va_D A (zwW adW adT adR adG adF adH adD adP ++ zwD adD adD_parts adD_bytes adD_lows adD_highs cB cI cL sD)) (hS : va_S A s.heap H locs) (ls : Array Slot) (hl : lv_has ls 6 [(0, .ref adW), (1, .int v1), (2, .long v2)]) : W p l e R s m args below meth c H locs 0 0 (zMQ below (q_W_set dC dI cB cI cL A adW adD adD_parts adD_bytes adD_lows adD_highs adT adR adG adF adH adP a) args s 1 6 A) (F0 m 55 ls []) := by
  obtain ⟨hx, hb, hr, hml, hown, hts, hlocks, hRf, hRl⟩ := id X
  unfold g_W_set_55 at hG
  refine lv_aload_n hx hb d_W_set_55 rfl (lv_at hl 0 rfl) ?_
  refine va_get (D := (dC, dI)) (ci := 0) (v := .ref adD) (C := R_W) (T := F_W) (N := 7) hx hb hts zi_W hown zz.1 hP 0 rfl rfl 5 (by decide) (hts (.fieldLink R_W 49 "WireCodec" "drafted" "LWireCodec$Draft;") zin_W_49) (fun _ h9 => h9) rfl d_W_set_56 ?_
  refine va_get (D := (dC, dI)) (ci := 6) (v := .ref adD_parts) (C := R_D) (T := F_D) (N := 6) hx hb hts zi_D hown zz.1 hP 1 rfl rfl 0 (by decide) (hts (.fieldLink R_W 205 "WireCodec$Draft" "parts" "[J") zin_W_205) (fun _ h9 => h9) rfl d_W_set_59 ?_
  refine lv_iload_n hx hb d_W_set_62 rfl (lv_at hl 1 rfl) ?_
  refine lv_lload_n hx hb d_W_set_63 rfl (lv_at hl 2 rfl) ?_
  obtain ⟨hin, hG⟩ := zgd hG
  refine va_last hx hb zz.1 hP hD hS 2 2 rfl rfl hin d_W_set_64 (fun H locs hP hD hS => ?_)
  have hP : va_P (dC, dI) zcl (zwW adW adT adR adG adF adH adD adP ++ zwD adD adD_parts adD_bytes adD_lows adD_highs cB cI cL (zD_parts' sD (vp_updL (zD_parts sD) v1.toNatClampNeg v2))) H := hP
  have hD : va_D A (zwW adW adT adR adG adF adH adD adP ++ zwD adD adD_parts adD_bytes adD_lows adD_highs cB cI cL (zD_parts' sD (vp_updL (zD_parts sD) v1.toNatClampNeg v2))) := hD
  have hG : g_W_set_w64 (zD_parts' sD (vp_updL (zD_parts sD) v1.toNatClampNeg v2)) = some a := hG
  generalize zD_parts' sD (vp_updL (zD_parts sD) v1.toNatClampNeg v2) = sD_64 at hP hD hG
  unfold g_W_set_w64 at hG
  refine W.widen (k := 1) (n := 6) (by decide) (by decide) ?_
  exact zxretv (u := (sD_64)) X hlocks (Option.some.inj hG) hP hD hS d_W_set_65
set_option maxRecDepth 100000 in
set_option maxHeartbeats 4000000 in
theorem k_W_set_33 {p : Program} {l : Launch} {e : Env} {R : Room} {s : State} {m : MethodId} {args : Array Value} {below : List Frame} {meth : Method} {c : Code} {dC : Nat → ClassId} {dI : Nat → Nat → Nat} {cB cI cL : ClassId} {A : Nat → Prop} {adT adR adG adF adH adP : Nat} (X : zx p s m args meth c R R_W b_W_set none 6 6 98) (hA : ∀ q, s.heap.size ≤ q → A q) (zz : zk dC dI cB cI cL A s) (htr : l.stackTraces = false) (hnh : c.exceptionTable.isEmpty = true) (hAs : ∀ q, A q → ∀ cell, s.heap[q]? = some cell → cell.vm.isStatics = false) (hRc : 1 ≤ R.cells) (hRz : 6 ≤ R.slots)  (sD : zD) (v1 : Int32) (v2 : Int64) (v4 : Int32) (s0 : Int32) (a : (Unit ⊕ Nat) × zD) (hG : g_W_set_33 sD v1 v2 v4 s0 = some a) (adW adD adD_parts adD_bytes adD_lows adD_highs : Nat) (H : Heap) (locs : List Loc) (hP : va_P (dC, dI) zcl (zwW adW adT adR adG adF adH adD adP ++ zwD adD adD_parts adD_bytes adD_lows adD_highs cB cI cL sD) H) (hD : va_D A (zwW adW adT adR adG adF adH adD adP ++ zwD adD adD_parts adD_bytes adD_lows adD_highs cB cI cL sD)) (hS : va_S A s.heap H locs) (ls : Array Slot) (hl : lv_has ls 6 [(0, .ref adW), (1, .int v1), (2, .long v2), (4, .int v4)]) : W p l e R s m args below meth c H locs 0 0 (zMQ below (q_W_set dC dI cB cI cL A adW adD adD_parts adD_bytes adD_lows adD_highs adT adR adG adF adH adP a) args s 1 6 A) (F0 m 33 ls [.int s0]) := by
  obtain ⟨hx, hb, hr, hml, hown, hts, hlocks, hRf, hRl⟩ := id X
  unfold g_W_set_33 at hG
  refine lv_istore (lv' := [(5, .int s0), (0, .ref adW), (1, .int v1), (2, .long v2), (4, .int v4)]) hx hb d_W_set_33 hl (by decide) rfl (fun ls hl => ?_)
  refine lv_iload hx hb d_W_set_35 (lv_at hl 4 rfl) ?_
  refine lv_if_ne (tgt := 55) hx hb d_W_set_37 (by decide) (fun hc => ?_) (fun hc => ?_)
  · have hG := zf hG hc
    exact k_W_set_55 X hA zz htr hnh hAs hRc hRz sD v1 v2 _ hG adW adD adD_parts adD_bytes adD_lows adD_highs _ _ hP hD hS _ (lv_sub hl [1, 2, 3] rfl)
  · have hG := zt hG hc
    refine lv_iload hx hb d_W_set_40 (lv_at hl 0 rfl) ?_
    refine lv_if_ne (tgt := 55) hx hb d_W_set_42 (by decide) (fun hc => ?_) (fun hc => ?_)
    · have hG := zf hG hc
      exact k_W_set_55 X hA zz htr hnh hAs hRc hRz sD v1 v2 _ hG adW adD adD_parts adD_bytes adD_lows adD_highs _ _ hP hD hS _ (lv_sub hl [1, 2, 3] rfl)
    · have hG := zt hG hc
      exact zthrow htr X zz hnh hAs hA hS 1 (text := "a draft has no such field") zin_W_60 zini_1 (by decide +kernel) zat_W_64 zfit_1 hl d_W_set_45 d_W_set_48 d_W_set_49 d_W_set_51 d_W_set_54 (Nat.le_trans (Nat.le_of_ble_eq_true rfl) hRf) (Nat.le_trans (Nat.le_of_ble_eq_true rfl) hRl) hRc hRz (by decide) (by decide) (fun t9 q9 hz9 ho9 ht9 => ⟨(sD), va_P.kept hP (zold hP ho9), hD, zFr hS hz9 ho9, Or.inr ⟨1, q9, rfl, Option.some.inj hG, ht9⟩⟩)
set_option maxRecDepth 100000 in
set_option maxHeartbeats 4000000 in
theorem k_W_set_32 {p : Program} {l : Launch} {e : Env} {R : Room} {s : State} {m : MethodId} {args : Array Value} {below : List Frame} {meth : Method} {c : Code} {dC : Nat → ClassId} {dI : Nat → Nat → Nat} {cB cI cL : ClassId} {A : Nat → Prop} {adT adR adG adF adH adP : Nat} (X : zx p s m args meth c R R_W b_W_set none 6 6 98) (hA : ∀ q, s.heap.size ≤ q → A q) (zz : zk dC dI cB cI cL A s) (htr : l.stackTraces = false) (hnh : c.exceptionTable.isEmpty = true) (hAs : ∀ q, A q → ∀ cell, s.heap[q]? = some cell → cell.vm.isStatics = false) (hRc : 1 ≤ R.cells) (hRz : 6 ≤ R.slots)  (sD : zD) (v1 : Int32) (v2 : Int64) (v4 : Int32) (a : (Unit ⊕ Nat) × zD) (hG : g_W_set_32 sD v1 v2 v4 = some a) (adW adD adD_parts adD_bytes adD_lows adD_highs : Nat) (H : Heap) (locs : List Loc) (hP : va_P (dC, dI) zcl (zwW adW adT adR adG adF adH adD adP ++ zwD adD adD_parts adD_bytes adD_lows adD_highs cB cI cL sD) H) (hD : va_D A (zwW adW adT adR adG adF adH adD adP ++ zwD adD adD_parts adD_bytes adD_lows adD_highs cB cI cL sD)) (hS : va_S A s.heap H locs) (ls : Array Slot) (hl : lv_has ls 6 [(0, .ref adW), (1, .int v1), (2, .long v2), (4, .int v4)]) : W p l e R s m args below meth c H locs 0 0 (zMQ below (q_W_set dC dI cB cI cL A adW adD adD_parts adD_bytes adD_lows adD_highs adT adR adG adF adH adP a) args s 1 6 A) (F0 m 32 ls []) := by
  obtain ⟨hx, hb, hr, hml, hown, hts, hlocks, hRf, hRl⟩ := id X
  unfold g_W_set_32 at hG
  refine lv_iconst (v := (0 : Int32)) hx hb d_W_set_32 (by decide) ?_
  exact k_W_set_33 X hA zz htr hnh hAs hRc hRz sD v1 v2 v4 (0 : Int32) _ hG adW adD adD_parts adD_bytes adD_lows adD_highs _ _ hP hD hS _ (lv_sub hl [0, 1, 2, 3] rfl)
set_option maxRecDepth 100000 in
set_option maxHeartbeats 4000000 in
theorem k_W_set_14 {p : Program} {l : Launch} {e : Env} {R : Room} {s : State} {m : MethodId} {args : Array Value} {below : List Frame} {meth : Method} {c : Code} {dC : Nat → ClassId} {dI : Nat → Nat → Nat} {cB cI cL : ClassId} {A : Nat → Prop} {adT adR adG adF adH adP : Nat} (X : zx p s m args meth c R R_W b_W_set none 6 6 98) (hA : ∀ q, s.heap.size ≤ q → A q) (zz : zk dC dI cB cI cL A s) (htr : l.stackTraces = false) (hnh : c.exceptionTable.isEmpty = true) (hAs : ∀ q, A q → ∀ cell, s.heap[q]? = some cell → cell.vm.isStatics = false) (hRc : 1 ≤ R.cells) (hRz : 6 ≤ R.slots)  (sD : zD) (v1 : Int32) (v2 : Int64) (s0 : Int32) (a : (Unit ⊕ Nat) × zD) (hG : g_W_set_14 sD v1 v2 s0 = some a) (adW adD adD_parts adD_bytes adD_lows adD_highs : Nat) (H : Heap) (locs : List Loc) (hP : va_P (dC, dI) zcl (zwW adW adT adR adG adF adH adD adP ++ zwD adD adD_parts adD_bytes adD_lows adD_highs cB cI cL sD) H) (hD : va_D A (zwW adW adT adR adG adF adH adD adP ++ zwD adD adD_parts adD_bytes adD_lows adD_highs cB cI cL sD)) (hS : va_S A s.heap H locs) (ls : Array Slot) (hl : lv_has ls 6 [(0, .ref adW), (1, .int v1), (2, .long v2)]) : W p l e R s m args below meth c H locs 0 0 (zMQ below (q_W_set dC dI cB cI cL A adW adD adD_parts adD_bytes adD_lows adD_highs adT adR adG adF adH adP a) args s 1 6 A) (F0 m 14 ls [.int s0]) := by
  obtain ⟨hx, hb, hr, hml, hown, hts, hlocks, hRf, hRl⟩ := id X
  unfold g_W_set_14 at hG
  refine lv_istore (lv' := [(4, .int s0), (0, .ref adW), (1, .int v1), (2, .long v2)]) hx hb d_W_set_14 hl (by decide) rfl (fun ls hl => ?_)
  refine lv_iload_n hx hb d_W_set_16 rfl (lv_at hl 2 rfl) ?_
  refine lv_bipush (v := (9 : Int32)) hx hb d_W_set_17 (by decide) ?_
  refine lv_icmp_lt (tgt := 32) hx hb d_W_set_19 (by decide) (fun hc => ?_) (fun hc => ?_)
  · have hG := zt hG hc
    exact k_W_set_32 X hA zz htr hnh hAs hRc hRz sD v1 v2 s0 _ hG adW adD adD_parts adD_bytes adD_lows adD_highs _ _ hP hD hS _ (lv_sub hl [1, 2, 3, 0] rfl)
  · have hG := zf hG hc
    refine lv_iload_n hx hb d_W_set_22 rfl (lv_at hl 2 rfl) ?_
    refine lv_bipush (v := (12 : Int32)) hx hb d_W_set_23 (by decide) ?_
    refine lv_icmp_ge (tgt := 32) hx hb d_W_set_25 (by decide) (fun hc => ?_) (fun hc => ?_)
    · have hG := zt hG hc
      exact k_W_set_32 X hA zz htr hnh hAs hRc hRz sD v1 v2 s0 _ hG adW adD adD_parts adD_bytes adD_lows adD_highs _ _ hP hD hS _ (lv_sub hl [1, 2, 3, 0] rfl)
    · have hG := zf hG hc
      refine lv_iconst (v := (1 : Int32)) hx hb d_W_set_28 (by decide) ?_
      refine lv_goto (tgt := 33) hx hb d_W_set_29 (by decide) ?_
      exact k_W_set_33 X hA zz htr hnh hAs hRc hRz sD v1 v2 s0 (1 : Int32) _ hG adW adD adD_parts adD_bytes adD_lows adD_highs _ _ hP hD hS _ (lv_sub hl [1, 2, 3, 0] rfl)
set_option maxRecDepth 100000 in
set_option maxHeartbeats 4000000 in
theorem k_W_set_13 {p : Program} {l : Launch} {e : Env} {R : Room} {s : State} {m : MethodId} {args : Array Value} {below : List Frame} {meth : Method} {c : Code} {dC : Nat → ClassId} {dI : Nat → Nat → Nat} {cB cI cL : ClassId} {A : Nat → Prop} {adT adR adG adF adH adP : Nat} (X : zx p s m args meth c R R_W b_W_set none 6 6 98) (hA : ∀ q, s.heap.size ≤ q → A q) (zz : zk dC dI cB cI cL A s) (htr : l.stackTraces = false) (hnh : c.exceptionTable.isEmpty = true) (hAs : ∀ q, A q → ∀ cell, s.heap[q]? = some cell → cell.vm.isStatics = false) (hRc : 1 ≤ R.cells) (hRz : 6 ≤ R.slots)  (sD : zD) (v1 : Int32) (v2 : Int64) (a : (Unit ⊕ Nat) × zD) (hG : g_W_set_13 sD v1 v2 = some a) (adW adD adD_parts adD_bytes adD_lows adD_highs : Nat) (H : Heap) (locs : List Loc) (hP : va_P (dC, dI) zcl (zwW adW adT adR adG adF adH adD adP ++ zwD adD adD_parts adD_bytes adD_lows adD_highs cB cI cL sD) H) (hD : va_D A (zwW adW adT adR adG adF adH adD adP ++ zwD adD adD_parts adD_bytes adD_lows adD_highs cB cI cL sD)) (hS : va_S A s.heap H locs) (ls : Array Slot) (hl : lv_has ls 6 [(0, .ref adW), (1, .int v1), (2, .long v2)]) : W p l e R s m args below meth c H locs 0 0 (zMQ below (q_W_set dC dI cB cI cL A adW adD adD_parts adD_bytes adD_lows adD_highs adT adR adG adF adH adP a) args s 1 6 A) (F0 m 13 ls []) := by
  obtain ⟨hx, hb, hr, hml, hown, hts, hlocks, hRf, hRl⟩ := id X
  unfold g_W_set_13 at hG
  refine lv_iconst (v := (0 : Int32)) hx hb d_W_set_13 (by decide) ?_
  exact k_W_set_14 X hA zz htr hnh hAs hRc hRz sD v1 v2 (0 : Int32) _ hG adW adD adD_parts adD_bytes adD_lows adD_highs _ _ hP hD hS _ (lv_sub hl [0, 1, 2] rfl)
set_option maxRecDepth 100000 in
set_option maxHeartbeats 4000000 in
theorem k_W_set_0 {p : Program} {l : Launch} {e : Env} {R : Room} {s : State} {m : MethodId} {args : Array Value} {below : List Frame} {meth : Method} {c : Code} {dC : Nat → ClassId} {dI : Nat → Nat → Nat} {cB cI cL : ClassId} {A : Nat → Prop} {adT adR adG adF adH adP : Nat} (X : zx p s m args meth c R R_W b_W_set none 6 6 98) (hA : ∀ q, s.heap.size ≤ q → A q) (zz : zk dC dI cB cI cL A s) (htr : l.stackTraces = false) (hnh : c.exceptionTable.isEmpty = true) (hAs : ∀ q, A q → ∀ cell, s.heap[q]? = some cell → cell.vm.isStatics = false) (hRc : 1 ≤ R.cells) (hRz : 6 ≤ R.slots)  (sD : zD) (v1 : Int32) (v2 : Int64) (a : (Unit ⊕ Nat) × zD) (hG : g_W_set sD v1 v2 = some a) (adW adD adD_parts adD_bytes adD_lows adD_highs : Nat) (H : Heap) (locs : List Loc) (hP : va_P (dC, dI) zcl (zwW adW adT adR adG adF adH adD adP ++ zwD adD adD_parts adD_bytes adD_lows adD_highs cB cI cL sD) H) (hD : va_D A (zwW adW adT adR adG adF adH adD adP ++ zwD adD adD_parts adD_bytes adD_lows adD_highs cB cI cL sD)) (hS : va_S A s.heap H locs) (ls : Array Slot) (hl : lv_has ls 6 [(0, .ref adW), (1, .int v1), (2, .long v2)]) : W p l e R s m args below meth c H locs 0 0 (zMQ below (q_W_set dC dI cB cI cL A adW adD adD_parts adD_bytes adD_lows adD_highs adT adR adG adF adH adP a) args s 1 6 A) (F0 m 0 ls []) := by
  obtain ⟨hx, hb, hr, hml, hown, hts, hlocks, hRf, hRl⟩ := id X
  unfold g_W_set at hG
  refine lv_iload_n hx hb d_W_set_0 rfl (lv_at hl 1 rfl) ?_
  refine lv_if_lt (tgt := 13) hx hb d_W_set_1 (by decide) (fun hc => ?_) (fun hc => ?_)
  · have hG := zt hG hc
    exact k_W_set_13 X hA zz htr hnh hAs hRc hRz sD v1 v2 _ hG adW adD adD_parts adD_bytes adD_lows adD_highs _ _ hP hD hS _ (lv_sub hl [0, 1, 2] rfl)
  · have hG := zf hG hc
    refine lv_iload_n hx hb d_W_set_4 rfl (lv_at hl 1 rfl) ?_
    refine lv_iconst (v := (3 : Int32)) hx hb d_W_set_5 (by decide) ?_
    refine lv_icmp_gt (tgt := 13) hx hb d_W_set_6 (by decide) (fun hc => ?_) (fun hc => ?_)
    · have hG := zt hG hc
      exact k_W_set_13 X hA zz htr hnh hAs hRc hRz sD v1 v2 _ hG adW adD adD_parts adD_bytes adD_lows adD_highs _ _ hP hD hS _ (lv_sub hl [0, 1, 2] rfl)
    · have hG := zf hG hc
      refine lv_iconst (v := (1 : Int32)) hx hb d_W_set_9 (by decide) ?_
      refine lv_goto (tgt := 14) hx hb d_W_set_10 (by decide) ?_
      exact k_W_set_14 X hA zz htr hnh hAs hRc hRz sD v1 v2 (1 : Int32) _ hG adW adD adD_parts adD_bytes adD_lows adD_highs _ _ hP hD hS _ (lv_sub hl [0, 1, 2] rfl)
set_option maxRecDepth 100000 in
set_option maxHeartbeats 4000000 in
theorem c_W_set (l : Launch) (dC : Nat → ClassId) (dI : Nat → Nat → Nat) (cB cI cL : ClassId) (sz : Nat) (adW adD adD_parts adD_bytes adD_lows adD_highs adT adR adG adF adH adP : Nat) (sD : zD) (v1 : Int32) (v2 : Int64) (a : (Unit ⊕ Nat) × zD) (hG : g_W_set sD v1 v2 = some a) (htr : l.stackTraces = false) : zMet l y_W_set (zw y_W_set b_W_set 6 none) ({ frames := 6, cells := 1, slots := 6, locals := 98 }) (va_Pc [.ref adW, .int v1, .long v2] (zpre dC dI cB cI cL sz (zwW adW adT adR adG adF adH adD adP ++ zwD adD adD_parts adD_bytes adD_lows adD_highs cB cI cL sD))) (q_W_set dC dI cB cI cL (va_A (zwW adW adT adR adG adF adH adD adP ++ zwD adD adD_parts adD_bytes adD_lows adD_highs cB cI cL sD) sz) adW adD adD_parts adD_bytes adD_lows adD_highs adT adR adG adF adH adP a) 1 6 (va_A (zwW adW adT adR adG adF adH adD adP ++ zwD adD adD_parts adD_bytes adD_lows adD_highs cB cI cL sD) sz) := by
  refine zMet.ofW (cc := b_W_set) (maxL := 6) (ret := none) (by decide) rfl ?_
  intro p e s m args below meth c s₁ B hml hv
  obtain ⟨rfl, hsz, hP, zz, hD0⟩ := hv
  subst hsz
  have X := zx_of (F := 6) (L := 98) B hml (Nat.le_refl _) (Nat.le_refl _)
  have hD := hD0.self (sz := s.heap.size)
  have hA : ∀ q : Nat, s.heap.size ≤ q → va_A (zwW adW adT adR adG adF adH adD adP ++ zwD adD adD_parts adD_bytes adD_lows adD_highs cB cI cL sD) s.heap.size q := fun q h => Or.inr h
  have hl := lv_entry ([.ref adW, .int v1, .long v2]) (n := 6) (Nat.le_of_ble_eq_true rfl)
  rw [lg_entry_eq]
  generalize (lg_sl ([.ref adW, .int v1, .long v2]) ++ List.replicate (6 - (lg_sl ([.ref adW, .int v1, .long v2])).length) Slot.unset).toArray = ls at hl ⊢
  have hnh := BodyLoose.noHandlers B (atoms_spec (ws := zw y_W_set b_W_set 6 none) B.pre _ List.mem_cons_self)
  have hAs := zstatics hP
  exact k_W_set_0 X hA zz htr hnh hAs (Nat.le_refl _) (Nat.le_refl _) sD v1 v2 a hG adW adD adD_parts adD_bytes adD_lows adD_highs _ _ hP hD va_S.rf ls hl
noncomputable def g_W_requireByte_15 (sT : zT) : Option ((Unit ⊕ Nat)) := some (.inr 3)
noncomputable def g_W_requireByte (sT : zT) (v1 : Int32) : Option ((Unit ⊕ Nat)) := if v1 < (0 : Int32) then (g_W_requireByte_15 sT) else (if v1 < (zT_length sT) then (some (.inl ())) else (g_W_requireByte_15 sT))
def q_W_requireByte (dC : Nat → ClassId) (dI : Nat → Nat → Nat) (cB cI cL : ClassId) (A : Nat → Prop) (adW : Nat) (adT : Nat) (adT_bytes : Nat) (adR : Nat) (adG : Nat) (adF : Nat) (adH : Nat) (adD : Nat) (adP : Nat) (sT : zT) (a : (Unit ⊕ Nat)) : Array Value → State → Outcome → State → Prop := zQx (α := Unit) (fun _ => none) (fun r (u : Unit) => (r) = a) (dC, dI) (fun u => (zwW adW adT adR adG adF adH adD adP ++ zwT adT adT_bytes cB cI cL sT)) A
set_option maxRecDepth 100000 in
set_option maxHeartbeats 4000000 in
theorem k_W_requireByte_15 {p : Program} {l : Launch} {e : Env} {R : Room} {s : State} {m : MethodId} {args : Array Value} {below : List Frame} {meth : Method} {c : Code} {dC : Nat → ClassId} {dI : Nat → Nat → Nat} {cB cI cL : ClassId} {A : Nat → Prop} {adR adG adF adH adD adP : Nat} (X : zx p s m args meth c R R_W b_W_requireByte none 2 6 98) (hA : ∀ q, s.heap.size ≤ q → A q) (zz : zk dC dI cB cI cL A s) (htr : l.stackTraces = false) (hnh : c.exceptionTable.isEmpty = true) (hAs : ∀ q, A q → ∀ cell, s.heap[q]? = some cell → cell.vm.isStatics = false) (hRc : 1 ≤ R.cells) (hRz : 6 ≤ R.slots)  (sT : zT) (a : (Unit ⊕ Nat)) (hG : g_W_requireByte_15 sT = some a) (adW adT adT_bytes : Nat) (H : Heap) (locs : List Loc) (hP : va_P (dC, dI) zcl (zwW adW adT adR adG adF adH adD adP ++ zwT adT adT_bytes cB cI cL sT) H) (hD : va_D A (zwW adW adT adR adG adF adH adD adP ++ zwT adT adT_bytes cB cI cL sT)) (hS : va_S A s.heap H locs) (ls : Array Slot) (hl : lv_has ls 2 []) : W p l e R s m args below meth c H locs 0 0 (zMQ below (q_W_requireByte dC dI cB cI cL A adW adT adT_bytes adR adG adF adH adD adP sT a) args s 1 6 A) (F0 m 15 ls []) := by
  obtain ⟨hx, hb, hr, hml, hown, hts, hlocks, hRf, hRl⟩ := id X
  unfold g_W_requireByte_15 at hG
  exact zthrowW htr X zz hnh hAs hA hS 3 (text := "the tape has no such byte") zin_W_164 zini_3 (by decide +kernel) zat_W_168 zfit_3 hl d_W_requireByte_15 d_W_requireByte_18 d_W_requireByte_19 d_W_requireByte_22 d_W_requireByte_25 (Nat.le_trans (Nat.le_of_ble_eq_true rfl) hRf) (Nat.le_trans (Nat.le_of_ble_eq_true rfl) hRl) hRc hRz (by decide) (by decide) (fun t9 q9 hz9 ho9 ht9 => ⟨(), va_P.kept hP (zold hP ho9), hD, zFr hS hz9 ho9, Or.inr ⟨3, q9, rfl, Option.some.inj hG, ht9⟩⟩)
set_option maxRecDepth 100000 in
set_option maxHeartbeats 4000000 in
theorem k_W_requireByte_0 {p : Program} {l : Launch} {e : Env} {R : Room} {s : State} {m : MethodId} {args : Array Value} {below : List Frame} {meth : Method} {c : Code} {dC : Nat → ClassId} {dI : Nat → Nat → Nat} {cB cI cL : ClassId} {A : Nat → Prop} {adR adG adF adH adD adP : Nat} (X : zx p s m args meth c R R_W b_W_requireByte none 2 6 98) (hA : ∀ q, s.heap.size ≤ q → A q) (zz : zk dC dI cB cI cL A s) (htr : l.stackTraces = false) (hnh : c.exceptionTable.isEmpty = true) (hAs : ∀ q, A q → ∀ cell, s.heap[q]? = some cell → cell.vm.isStatics = false) (hRc : 1 ≤ R.cells) (hRz : 6 ≤ R.slots)  (sT : zT) (v1 : Int32) (a : (Unit ⊕ Nat)) (hG : g_W_requireByte sT v1 = some a) (adW adT adT_bytes : Nat) (H : Heap) (locs : List Loc) (hP : va_P (dC, dI) zcl (zwW adW adT adR adG adF adH adD adP ++ zwT adT adT_bytes cB cI cL sT) H) (hD : va_D A (zwW adW adT adR adG adF adH adD adP ++ zwT adT adT_bytes cB cI cL sT)) (hS : va_S A s.heap H locs) (ls : Array Slot) (hl : lv_has ls 2 [(0, .ref adW), (1, .int v1)]) : W p l e R s m args below meth c H locs 0 0 (zMQ below (q_W_requireByte dC dI cB cI cL A adW adT adT_bytes adR adG adF adH adD adP sT a) args s 1 6 A) (F0 m 0 ls []) := by
  obtain ⟨hx, hb, hr, hml, hown, hts, hlocks, hRf, hRl⟩ := id X
  unfold g_W_requireByte at hG
  refine lv_iload_n hx hb d_W_requireByte_0 rfl (lv_at hl 1 rfl) ?_
  refine lv_if_lt (tgt := 15) hx hb d_W_requireByte_1 (by decide) (fun hc => ?_) (fun hc => ?_)
  · have hG := zt hG hc
    exact k_W_requireByte_15 X hA zz htr hnh hAs hRc hRz sT _ hG adW adT adT_bytes _ _ hP hD hS _ (lv_sub hl [] rfl)
  · have hG := zf hG hc
    refine lv_iload_n hx hb d_W_requireByte_4 rfl (lv_at hl 1 rfl) ?_
    refine lv_aload_n hx hb d_W_requireByte_5 rfl (lv_at hl 0 rfl) ?_
    refine va_get (D := (dC, dI)) (ci := 0) (v := .ref adT) (C := R_W) (T := F_W) (N := 7) hx hb hts zi_W hown zz.1 hP 0 rfl rfl 0 (by decide) (hts (.fieldLink R_W 12 "WireCodec" "tape" "LWireCodec$Tape;") zin_W_12) (fun _ h9 => h9) rfl d_W_requireByte_6 ?_
    refine va_get (D := (dC, dI)) (ci := 1) (v := .int (zT_length sT)) (C := R_T) (T := F_T) (N := 3) hx hb hts zi_T hown zz.1 hP 1 rfl rfl 2 (by decide) (hts (.fieldLink R_W 95 "WireCodec$Tape" "length" "I") zin_W_95) (fun _ h9 => h9) rfl d_W_requireByte_9 ?_
    refine lv_icmp_lt (tgt := 26) hx hb d_W_requireByte_12 (by decide) (fun hc => ?_) (fun hc => ?_)
    · have hG := zt hG hc
      refine W.widen (k := 1) (n := 6) (by decide) (by decide) ?_
      exact zxretv (u := ()) X hlocks (Option.some.inj hG) hP hD hS d_W_requireByte_26
    · have hG := zf hG hc
      exact k_W_requireByte_15 X hA zz htr hnh hAs hRc hRz sT _ hG adW adT adT_bytes _ _ hP hD hS _ (lv_sub hl [] rfl)
set_option maxRecDepth 100000 in
set_option maxHeartbeats 4000000 in
theorem c_W_requireByte (l : Launch) (dC : Nat → ClassId) (dI : Nat → Nat → Nat) (cB cI cL : ClassId) (sz : Nat) (adW adT adT_bytes adR adG adF adH adD adP : Nat) (sT : zT) (v1 : Int32) (a : (Unit ⊕ Nat)) (hG : g_W_requireByte sT v1 = some a) (htr : l.stackTraces = false) : zMet l y_W_requireByte (zw y_W_requireByte b_W_requireByte 2 none) ({ frames := 6, cells := 1, slots := 6, locals := 98 }) (va_Pc [.ref adW, .int v1] (zpre dC dI cB cI cL sz (zwW adW adT adR adG adF adH adD adP ++ zwT adT adT_bytes cB cI cL sT))) (q_W_requireByte dC dI cB cI cL (va_A (zwW adW adT adR adG adF adH adD adP ++ zwT adT adT_bytes cB cI cL sT) sz) adW adT adT_bytes adR adG adF adH adD adP sT a) 1 6 (va_A (zwW adW adT adR adG adF adH adD adP ++ zwT adT adT_bytes cB cI cL sT) sz) := by
  refine zMet.ofW (cc := b_W_requireByte) (maxL := 2) (ret := none) (by decide) rfl ?_
  intro p e s m args below meth c s₁ B hml hv
  obtain ⟨rfl, hsz, hP, zz, hD0⟩ := hv
  subst hsz
  have X := zx_of (F := 6) (L := 98) B hml (Nat.le_refl _) (Nat.le_refl _)
  have hD := hD0.self (sz := s.heap.size)
  have hA : ∀ q : Nat, s.heap.size ≤ q → va_A (zwW adW adT adR adG adF adH adD adP ++ zwT adT adT_bytes cB cI cL sT) s.heap.size q := fun q h => Or.inr h
  have hl := lv_entry ([.ref adW, .int v1]) (n := 2) (Nat.le_of_ble_eq_true rfl)
  rw [lg_entry_eq]
  generalize (lg_sl ([.ref adW, .int v1]) ++ List.replicate (2 - (lg_sl ([.ref adW, .int v1])).length) Slot.unset).toArray = ls at hl ⊢
  have hnh := BodyLoose.noHandlers B (atoms_spec (ws := zw y_W_requireByte b_W_requireByte 2 none) B.pre _ List.mem_cons_self)
  have hAs := zstatics hP
  exact k_W_requireByte_0 X hA zz htr hnh hAs (Nat.le_refl _) (Nat.le_refl _) sT v1 a hG adW adT adT_bytes _ _ hP hD va_S.rf ls hl
noncomputable def g_W_requirePlace_15 (sT : zT) : Option ((Unit ⊕ Nat)) := some (.inr 1)
noncomputable def g_W_requirePlace (sT : zT) (v1 : Int32) : Option ((Unit ⊕ Nat)) := if v1 < (0 : Int32) then (g_W_requirePlace_15 sT) else (if v1 ≤ (zT_length sT) then (some (.inl ())) else (g_W_requirePlace_15 sT))
def q_W_requirePlace (dC : Nat → ClassId) (dI : Nat → Nat → Nat) (cB cI cL : ClassId) (A : Nat → Prop) (adW : Nat) (adT : Nat) (adT_bytes : Nat) (adR : Nat) (adG : Nat) (adF : Nat) (adH : Nat) (adD : Nat) (adP : Nat) (sT : zT) (a : (Unit ⊕ Nat)) : Array Value → State → Outcome → State → Prop := zQx (α := Unit) (fun _ => none) (fun r (u : Unit) => (r) = a) (dC, dI) (fun u => (zwW adW adT adR adG adF adH adD adP ++ zwT adT adT_bytes cB cI cL sT)) A
set_option maxRecDepth 100000 in
set_option maxHeartbeats 4000000 in
theorem k_W_requirePlace_15 {p : Program} {l : Launch} {e : Env} {R : Room} {s : State} {m : MethodId} {args : Array Value} {below : List Frame} {meth : Method} {c : Code} {dC : Nat → ClassId} {dI : Nat → Nat → Nat} {cB cI cL : ClassId} {A : Nat → Prop} {adR adG adF adH adD adP : Nat} (X : zx p s m args meth c R R_W b_W_requirePlace none 2 6 98) (hA : ∀ q, s.heap.size ≤ q → A q) (zz : zk dC dI cB cI cL A s) (htr : l.stackTraces = false) (hnh : c.exceptionTable.isEmpty = true) (hAs : ∀ q, A q → ∀ cell, s.heap[q]? = some cell → cell.vm.isStatics = false) (hRc : 1 ≤ R.cells) (hRz : 6 ≤ R.slots)  (sT : zT) (a : (Unit ⊕ Nat)) (hG : g_W_requirePlace_15 sT = some a) (adW adT adT_bytes : Nat) (H : Heap) (locs : List Loc) (hP : va_P (dC, dI) zcl (zwW adW adT adR adG adF adH adD adP ++ zwT adT adT_bytes cB cI cL sT) H) (hD : va_D A (zwW adW adT adR adG adF adH adD adP ++ zwT adT adT_bytes cB cI cL sT)) (hS : va_S A s.heap H locs) (ls : Array Slot) (hl : lv_has ls 2 []) : W p l e R s m args below meth c H locs 0 0 (zMQ below (q_W_requirePlace dC dI cB cI cL A adW adT adT_bytes adR adG adF adH adD adP sT a) args s 1 6 A) (F0 m 15 ls []) := by
  obtain ⟨hx, hb, hr, hml, hown, hts, hlocks, hRf, hRl⟩ := id X
  unfold g_W_requirePlace_15 at hG
  exact zthrowW htr X zz hnh hAs hA hS 1 (text := "from is not 0 .. size") zin_W_60 zini_1 (by decide +kernel) zat_W_64 zfit_1 hl d_W_requirePlace_15 d_W_requirePlace_18 d_W_requirePlace_19 d_W_requirePlace_22 d_W_requirePlace_25 (Nat.le_trans (Nat.le_of_ble_eq_true rfl) hRf) (Nat.le_trans (Nat.le_of_ble_eq_true rfl) hRl) hRc hRz (by decide) (by decide) (fun t9 q9 hz9 ho9 ht9 => ⟨(), va_P.kept hP (zold hP ho9), hD, zFr hS hz9 ho9, Or.inr ⟨1, q9, rfl, Option.some.inj hG, ht9⟩⟩)
set_option maxRecDepth 100000 in
set_option maxHeartbeats 4000000 in
theorem k_W_requirePlace_0 {p : Program} {l : Launch} {e : Env} {R : Room} {s : State} {m : MethodId} {args : Array Value} {below : List Frame} {meth : Method} {c : Code} {dC : Nat → ClassId} {dI : Nat → Nat → Nat} {cB cI cL : ClassId} {A : Nat → Prop} {adR adG adF adH adD adP : Nat} (X : zx p s m args meth c R R_W b_W_requirePlace none 2 6 98) (hA : ∀ q, s.heap.size ≤ q → A q) (zz : zk dC dI cB cI cL A s) (htr : l.stackTraces = false) (hnh : c.exceptionTable.isEmpty = true) (hAs : ∀ q, A q → ∀ cell, s.heap[q]? = some cell → cell.vm.isStatics = false) (hRc : 1 ≤ R.cells) (hRz : 6 ≤ R.slots)  (sT : zT) (v1 : Int32) (a : (Unit ⊕ Nat)) (hG : g_W_requirePlace sT v1 = some a) (adW adT adT_bytes : Nat) (H : Heap) (locs : List Loc) (hP : va_P (dC, dI) zcl (zwW adW adT adR adG adF adH adD adP ++ zwT adT adT_bytes cB cI cL sT) H) (hD : va_D A (zwW adW adT adR adG adF adH adD adP ++ zwT adT adT_bytes cB cI cL sT)) (hS : va_S A s.heap H locs) (ls : Array Slot) (hl : lv_has ls 2 [(0, .ref adW), (1, .int v1)]) : W p l e R s m args below meth c H locs 0 0 (zMQ below (q_W_requirePlace dC dI cB cI cL A adW adT adT_bytes adR adG adF adH adD adP sT a) args s 1 6 A) (F0 m 0 ls []) := by
  obtain ⟨hx, hb, hr, hml, hown, hts, hlocks, hRf, hRl⟩ := id X
  unfold g_W_requirePlace at hG
  refine lv_iload_n hx hb d_W_requirePlace_0 rfl (lv_at hl 1 rfl) ?_
  refine lv_if_lt (tgt := 15) hx hb d_W_requirePlace_1 (by decide) (fun hc => ?_) (fun hc => ?_)
  · have hG := zt hG hc
    exact k_W_requirePlace_15 X hA zz htr hnh hAs hRc hRz sT _ hG adW adT adT_bytes _ _ hP hD hS _ (lv_sub hl [] rfl)
  · have hG := zf hG hc
    refine lv_iload_n hx hb d_W_requirePlace_4 rfl (lv_at hl 1 rfl) ?_
    refine lv_aload_n hx hb d_W_requirePlace_5 rfl (lv_at hl 0 rfl) ?_
    refine va_get (D := (dC, dI)) (ci := 0) (v := .ref adT) (C := R_W) (T := F_W) (N := 7) hx hb hts zi_W hown zz.1 hP 0 rfl rfl 0 (by decide) (hts (.fieldLink R_W 12 "WireCodec" "tape" "LWireCodec$Tape;") zin_W_12) (fun _ h9 => h9) rfl d_W_requirePlace_6 ?_
    refine va_get (D := (dC, dI)) (ci := 1) (v := .int (zT_length sT)) (C := R_T) (T := F_T) (N := 3) hx hb hts zi_T hown zz.1 hP 1 rfl rfl 2 (by decide) (hts (.fieldLink R_W 95 "WireCodec$Tape" "length" "I") zin_W_95) (fun _ h9 => h9) rfl d_W_requirePlace_9 ?_
    refine lv_icmp_le (tgt := 26) hx hb d_W_requirePlace_12 (by decide) (fun hc => ?_) (fun hc => ?_)
    · have hG := zt hG hc
      refine W.widen (k := 1) (n := 6) (by decide) (by decide) ?_
      exact zxretv (u := ()) X hlocks (Option.some.inj hG) hP hD hS d_W_requirePlace_26
    · have hG := zf hG hc
      exact k_W_requirePlace_15 X hA zz htr hnh hAs hRc hRz sT _ hG adW adT adT_bytes _ _ hP hD hS _ (lv_sub hl [] rfl)
set_option maxRecDepth 100000 in
set_option maxHeartbeats 4000000 in
theorem c_W_requirePlace (l : Launch) (dC : Nat → ClassId) (dI : Nat → Nat → Nat) (cB cI cL : ClassId) (sz : Nat) (adW adT adT_bytes adR adG adF adH adD adP : Nat) (sT : zT) (v1 : Int32) (a : (Unit ⊕ Nat)) (hG : g_W_requirePlace sT v1 = some a) (htr : l.stackTraces = false) : zMet l y_W_requirePlace (zw y_W_requirePlace b_W_requirePlace 2 none) ({ frames := 6, cells := 1, slots := 6, locals := 98 }) (va_Pc [.ref adW, .int v1] (zpre dC dI cB cI cL sz (zwW adW adT adR adG adF adH adD adP ++ zwT adT adT_bytes cB cI cL sT))) (q_W_requirePlace dC dI cB cI cL (va_A (zwW adW adT adR adG adF adH adD adP ++ zwT adT adT_bytes cB cI cL sT) sz) adW adT adT_bytes adR adG adF adH adD adP sT a) 1 6 (va_A (zwW adW adT adR adG adF adH adD adP ++ zwT adT adT_bytes cB cI cL sT) sz) := by
  refine zMet.ofW (cc := b_W_requirePlace) (maxL := 2) (ret := none) (by decide) rfl ?_
  intro p e s m args below meth c s₁ B hml hv
  obtain ⟨rfl, hsz, hP, zz, hD0⟩ := hv
  subst hsz
  have X := zx_of (F := 6) (L := 98) B hml (Nat.le_refl _) (Nat.le_refl _)
  have hD := hD0.self (sz := s.heap.size)
  have hA : ∀ q : Nat, s.heap.size ≤ q → va_A (zwW adW adT adR adG adF adH adD adP ++ zwT adT adT_bytes cB cI cL sT) s.heap.size q := fun q h => Or.inr h
  have hl := lv_entry ([.ref adW, .int v1]) (n := 2) (Nat.le_of_ble_eq_true rfl)
  rw [lg_entry_eq]
  generalize (lg_sl ([.ref adW, .int v1]) ++ List.replicate (2 - (lg_sl ([.ref adW, .int v1])).length) Slot.unset).toArray = ls at hl ⊢
  have hnh := BodyLoose.noHandlers B (atoms_spec (ws := zw y_W_requirePlace b_W_requirePlace 2 none) B.pre _ List.mem_cons_self)
  have hAs := zstatics hP
  exact k_W_requirePlace_0 X hA zz htr hnh hAs (Nat.le_refl _) (Nat.le_refl _) sT v1 a hG adW adT adT_bytes _ _ hP hD va_S.rf ls hl
noncomputable def g_W_requireNames_10  : Option ((Unit ⊕ Nat)) := some (.inr 1)
noncomputable def g_W_requireNames (v0 : Int32) : Option ((Unit ⊕ Nat)) := if v0 < (0 : Int32) then g_W_requireNames_10 else (if v0 ≤ (20 : Int32) then (some (.inl ())) else g_W_requireNames_10)
def q_W_requireNames (dC : Nat → ClassId) (dI : Nat → Nat → Nat) (cB cI cL : ClassId) (A : Nat → Prop) (a : (Unit ⊕ Nat)) : Array Value → State → Outcome → State → Prop := zQx (α := Unit) (fun _ => none) (fun r (u : Unit) => (r) = a) (dC, dI) (fun u => ([] : va_W)) A
set_option maxRecDepth 100000 in
set_option maxHeartbeats 4000000 in
theorem k_W_requireNames_10 {p : Program} {l : Launch} {e : Env} {R : Room} {s : State} {m : MethodId} {args : Array Value} {below : List Frame} {meth : Method} {c : Code} {dC : Nat → ClassId} {dI : Nat → Nat → Nat} {cB cI cL : ClassId} {A : Nat → Prop} (X : zx p s m args meth c R R_W b_W_requireNames none 1 6 98) (hA : ∀ q, s.heap.size ≤ q → A q) (zz : zk dC dI cB cI cL A s) (htr : l.stackTraces = false) (hnh : c.exceptionTable.isEmpty = true) (hAs : ∀ q, A q → ∀ cell, s.heap[q]? = some cell → cell.vm.isStatics = false) (hRc : 1 ≤ R.cells) (hRz : 6 ≤ R.slots)  (a : (Unit ⊕ Nat)) (hG : g_W_requireNames_10  = some a) (H : Heap) (locs : List Loc) (hP : va_P (dC, dI) zcl ([] : va_W) H) (hD : va_D A ([] : va_W)) (hS : va_S A s.heap H locs) (ls : Array Slot) (hl : lv_has ls 1 []) : W p l e R s m args below meth c H locs 0 0 (zMQ below (q_W_requireNames dC dI cB cI cL A a) args s 1 6 A) (F0 m 10 ls []) := by
  obtain ⟨hx, hb, hr, hml, hown, hts, hlocks, hRf, hRl⟩ := id X
  unfold g_W_requireNames_10 at hG
  exact zthrowW htr X zz hnh hAs hA hS 1 (text := "names is not 0 .. 20") zin_W_60 zini_1 (by decide +kernel) zat_W_64 zfit_1 hl d_W_requireNames_10 d_W_requireNames_13 d_W_requireNames_14 d_W_requireNames_17 d_W_requireNames_20 (Nat.le_trans (Nat.le_of_ble_eq_true rfl) hRf) (Nat.le_trans (Nat.le_of_ble_eq_true rfl) hRl) hRc hRz (by decide) (by decide) (fun t9 q9 hz9 ho9 ht9 => ⟨(), va_P.kept hP (zold hP ho9), hD, zFr hS hz9 ho9, Or.inr ⟨1, q9, rfl, Option.some.inj hG, ht9⟩⟩)
set_option maxRecDepth 100000 in
set_option maxHeartbeats 4000000 in
theorem k_W_requireNames_0 {p : Program} {l : Launch} {e : Env} {R : Room} {s : State} {m : MethodId} {args : Array Value} {below : List Frame} {meth : Method} {c : Code} {dC : Nat → ClassId} {dI : Nat → Nat → Nat} {cB cI cL : ClassId} {A : Nat → Prop} (X : zx p s m args meth c R R_W b_W_requireNames none 1 6 98) (hA : ∀ q, s.heap.size ≤ q → A q) (zz : zk dC dI cB cI cL A s) (htr : l.stackTraces = false) (hnh : c.exceptionTable.isEmpty = true) (hAs : ∀ q, A q → ∀ cell, s.heap[q]? = some cell → cell.vm.isStatics = false) (hRc : 1 ≤ R.cells) (hRz : 6 ≤ R.slots)  (v0 : Int32) (a : (Unit ⊕ Nat)) (hG : g_W_requireNames v0 = some a) (H : Heap) (locs : List Loc) (hP : va_P (dC, dI) zcl ([] : va_W) H) (hD : va_D A ([] : va_W)) (hS : va_S A s.heap H locs) (ls : Array Slot) (hl : lv_has ls 1 [(0, .int v0)]) : W p l e R s m args below meth c H locs 0 0 (zMQ below (q_W_requireNames dC dI cB cI cL A a) args s 1 6 A) (F0 m 0 ls []) := by
  obtain ⟨hx, hb, hr, hml, hown, hts, hlocks, hRf, hRl⟩ := id X
  unfold g_W_requireNames at hG
  refine lv_iload_n hx hb d_W_requireNames_0 rfl (lv_at hl 0 rfl) ?_
  refine lv_if_lt (tgt := 10) hx hb d_W_requireNames_1 (by decide) (fun hc => ?_) (fun hc => ?_)
  · have hG := zt hG hc
    exact k_W_requireNames_10 X hA zz htr hnh hAs hRc hRz _ hG _ _ hP hD hS _ (lv_sub hl [] rfl)
  · have hG := zf hG hc
    refine lv_iload_n hx hb d_W_requireNames_4 rfl (lv_at hl 0 rfl) ?_
    refine lv_bipush (v := (20 : Int32)) hx hb d_W_requireNames_5 (by decide) ?_
    refine lv_icmp_le (tgt := 21) hx hb d_W_requireNames_7 (by decide) (fun hc => ?_) (fun hc => ?_)
    · have hG := zt hG hc
      refine W.widen (k := 1) (n := 6) (by decide) (by decide) ?_
      exact zxretv (u := ()) X hlocks (Option.some.inj hG) hP hD hS d_W_requireNames_21
    · have hG := zf hG hc
      exact k_W_requireNames_10 X hA zz htr hnh hAs hRc hRz _ hG _ _ hP hD hS _ (lv_sub hl [] rfl)
set_option maxRecDepth 100000 in
set_option maxHeartbeats 4000000 in
theorem c_W_requireNames (l : Launch) (dC : Nat → ClassId) (dI : Nat → Nat → Nat) (cB cI cL : ClassId) (sz : Nat) (v0 : Int32) (a : (Unit ⊕ Nat)) (hG : g_W_requireNames v0 = some a) (htr : l.stackTraces = false) : zMet l y_W_requireNames (zw y_W_requireNames b_W_requireNames 1 none) ({ frames := 6, cells := 1, slots := 6, locals := 98 }) (va_Pc [.int v0] (zpre dC dI cB cI cL sz ([] : va_W))) (q_W_requireNames dC dI cB cI cL (va_A ([] : va_W) sz) a) 1 6 (va_A ([] : va_W) sz) := by
  refine zMet.ofW (cc := b_W_requireNames) (maxL := 1) (ret := none) (by decide) rfl ?_
  intro p e s m args below meth c s₁ B hml hv
  obtain ⟨rfl, hsz, hP, zz, hD0⟩ := hv
  subst hsz
  have X := zx_of (F := 6) (L := 98) B hml (Nat.le_refl _) (Nat.le_refl _)
  have hD := hD0.self (sz := s.heap.size)
  have hA : ∀ q : Nat, s.heap.size ≤ q → va_A ([] : va_W) s.heap.size q := fun q h => Or.inr h
  have hl := lv_entry ([.int v0]) (n := 1) (Nat.le_of_ble_eq_true rfl)
  rw [lg_entry_eq]
  generalize (lg_sl ([.int v0]) ++ List.replicate (1 - (lg_sl ([.int v0])).length) Slot.unset).toArray = ls at hl ⊢
  have hnh := BodyLoose.noHandlers B (atoms_spec (ws := zw y_W_requireNames b_W_requireNames 1 none) B.pre _ List.mem_cons_self)
  have hAs := zstatics hP
  exact k_W_requireNames_0 X hA zz htr hnh hAs (Nat.le_refl _) (Nat.le_refl _) v0 a hG _ _ hP hD va_S.rf ls hl
noncomputable def g_T_byteAt_27 (sT : zT) (s0 : Int32) : Option (Int32) := some (s0)
noncomputable def g_T_byteAt_26 (sT : zT) : Option (Int32) := g_T_byteAt_27 sT (0 : Int32)
noncomputable def g_T_byteAt (sT : zT) (v1 : Int32) : Option (Int32) := if v1 < (0 : Int32) then (g_T_byteAt_26 sT) else (if (nI (zT_bytesN sT)) ≤ v1 then (g_T_byteAt_26 sT) else (zg (vp_in v1 (zT_bytesN sT)) (g_T_byteAt_27 sT (((zT_bytes sT) v1.toNatClampNeg) &&& (255 : Int32)))))
def q_T_byteAt (dC : Nat → ClassId) (dI : Nat → Nat → Nat) (cB cI cL : ClassId) (A : Nat → Prop) (adT : Nat) (adT_bytes : Nat) (sT : zT) (a : Int32) : Array Value → State → Outcome → State → Prop := va_Qi (fun (r : Int32) (u : Unit) => (r) = a) (fun u U => va_P (dC, dI) zcl (zwT adT adT_bytes cB cI cL sT) U.heap ∧ va_D A (zwT adT adT_bytes cB cI cL sT)) A
set_option maxRecDepth 100000 in
set_option maxHeartbeats 4000000 in
theorem k_T_byteAt_27 {p : Program} {l : Launch} {e : Env} {R : Room} {s : State} {m : MethodId} {args : Array Value} {below : List Frame} {meth : Method} {c : Code} {dC : Nat → ClassId} {dI : Nat → Nat → Nat} {cB cI cL : ClassId} {A : Nat → Prop} (X : zx p s m args meth c R R_T b_T_byteAt (some .int) 2 0 0) (hA : ∀ q, s.heap.size ≤ q → A q) (zz : zk dC dI cB cI cL A s)  (sT : zT) (s0 : Int32) (a : Int32) (hG : g_T_byteAt_27 sT s0 = some a) (adT adT_bytes : Nat) (H : Heap) (locs : List Loc) (hP : va_P (dC, dI) zcl (zwT adT adT_bytes cB cI cL sT) H) (hD : va_D A (zwT adT adT_bytes cB cI cL sT)) (hS : va_S A s.heap H locs) (ls : Array Slot) (hl : lv_has ls 2 []) : W p l e R s m args below meth c H locs 0 0 (MQ below (q_T_byteAt dC dI cB cI cL A adT adT_bytes sT a) args s 0 0 A) (F0 m 27 ls [.int s0]) := by
  obtain ⟨hx, hb, hr, hml, hown, hts, hlocks, hRf, hRl⟩ := id X
  unfold g_T_byteAt_27 at hG
  exact W.iret (v := s0) hx hb hr (fun t9 ht9 hW9 => ⟨⟨s0, (), rfl, Option.some.inj hG, by rw [ht9]; exact hP, hD⟩, hS.F ht9⟩) hS.2.2 d_T_byteAt_27
set_option maxRecDepth 100000 in
set_option maxHeartbeats 4000000 in
theorem k_T_byteAt_26 {p : Program} {l : Launch} {e : Env} {R : Room} {s : State} {m : MethodId} {args : Array Value} {below : List Frame} {meth : Method} {c : Code} {dC : Nat → ClassId} {dI : Nat → Nat → Nat} {cB cI cL : ClassId} {A : Nat → Prop} (X : zx p s m args meth c R R_T b_T_byteAt (some .int) 2 0 0) (hA : ∀ q, s.heap.size ≤ q → A q) (zz : zk dC dI cB cI cL A s)  (sT : zT) (a : Int32) (hG : g_T_byteAt_26 sT = some a) (adT adT_bytes : Nat) (H : Heap) (locs : List Loc) (hP : va_P (dC, dI) zcl (zwT adT adT_bytes cB cI cL sT) H) (hD : va_D A (zwT adT adT_bytes cB cI cL sT)) (hS : va_S A s.heap H locs) (ls : Array Slot) (hl : lv_has ls 2 []) : W p l e R s m args below meth c H locs 0 0 (MQ below (q_T_byteAt dC dI cB cI cL A adT adT_bytes sT a) args s 0 0 A) (F0 m 26 ls []) := by
  obtain ⟨hx, hb, hr, hml, hown, hts, hlocks, hRf, hRl⟩ := id X
  unfold g_T_byteAt_26 at hG
  refine lv_iconst (v := (0 : Int32)) hx hb d_T_byteAt_26 (by decide) ?_
  exact k_T_byteAt_27 X hA zz sT (0 : Int32) _ hG adT adT_bytes _ _ hP hD hS _ (lv_sub hl [] rfl)
set_option maxRecDepth 100000 in
set_option maxHeartbeats 4000000 in
theorem k_T_byteAt_0 {p : Program} {l : Launch} {e : Env} {R : Room} {s : State} {m : MethodId} {args : Array Value} {below : List Frame} {meth : Method} {c : Code} {dC : Nat → ClassId} {dI : Nat → Nat → Nat} {cB cI cL : ClassId} {A : Nat → Prop} (X : zx p s m args meth c R R_T b_T_byteAt (some .int) 2 0 0) (hA : ∀ q, s.heap.size ≤ q → A q) (zz : zk dC dI cB cI cL A s)  (sT : zT) (v1 : Int32) (a : Int32) (hG : g_T_byteAt sT v1 = some a) (adT adT_bytes : Nat) (H : Heap) (locs : List Loc) (hP : va_P (dC, dI) zcl (zwT adT adT_bytes cB cI cL sT) H) (hD : va_D A (zwT adT adT_bytes cB cI cL sT)) (hS : va_S A s.heap H locs) (ls : Array Slot) (hl : lv_has ls 2 [(0, .ref adT), (1, .int v1)]) : W p l e R s m args below meth c H locs 0 0 (MQ below (q_T_byteAt dC dI cB cI cL A adT adT_bytes sT a) args s 0 0 A) (F0 m 0 ls []) := by
  obtain ⟨hx, hb, hr, hml, hown, hts, hlocks, hRf, hRl⟩ := id X
  unfold g_T_byteAt at hG
  refine lv_iload_n hx hb d_T_byteAt_0 rfl (lv_at hl 1 rfl) ?_
  refine lv_if_lt (tgt := 26) hx hb d_T_byteAt_1 (by decide) (fun hc => ?_) (fun hc => ?_)
  · have hG := zt hG hc
    exact k_T_byteAt_26 X hA zz sT _ hG adT adT_bytes _ _ hP hD hS _ (lv_sub hl [] rfl)
  · have hG := zf hG hc
    refine lv_iload_n hx hb d_T_byteAt_4 rfl (lv_at hl 1 rfl) ?_
    refine lv_aload_n hx hb d_T_byteAt_5 rfl (lv_at hl 0 rfl) ?_
    refine va_get (D := (dC, dI)) (ci := 1) (v := .ref adT_bytes) (C := R_T) (T := F_T) (N := 3) hx hb hts zi_T hown zz.1 hP 0 rfl rfl 0 (by decide) (hts (.fieldLink R_T 9 "WireCodec$Tape" "bytes" "[B") zin_T_9) (fun _ h9 => h9) rfl d_T_byteAt_6 ?_
    refine va_alen (v := nI (zT_bytesN sT)) hx hb zz.1 hP 1 0 rfl rfl rfl d_T_byteAt_9 ?_
    refine lv_icmp_ge (tgt := 26) hx hb d_T_byteAt_10 (by decide) (fun hc => ?_) (fun hc => ?_)
    · have hG := zt hG hc
      exact k_T_byteAt_26 X hA zz sT _ hG adT adT_bytes _ _ hP hD hS _ (lv_sub hl [] rfl)
    · have hG := zf hG hc
      refine lv_aload_n hx hb d_T_byteAt_13 rfl (lv_at hl 0 rfl) ?_
      refine va_get (D := (dC, dI)) (ci := 1) (v := .ref adT_bytes) (C := R_T) (T := F_T) (N := 3) hx hb hts zi_T hown zz.1 hP 0 rfl rfl 0 (by decide) (hts (.fieldLink R_T 9 "WireCodec$Tape" "bytes" "[B") zin_T_9) (fun _ h9 => h9) rfl d_T_byteAt_14 ?_
      refine lv_iload_n hx hb d_T_byteAt_17 rfl (lv_at hl 1 rfl) ?_
      obtain ⟨hin, hG⟩ := zgd hG
      refine va_bald hx hb zz.1 hP 1 0 rfl rfl hin d_T_byteAt_18 ?_
      refine lv_sipush (v := (255 : Int32)) hx hb d_T_byteAt_19 (by decide) ?_
      refine lv_iand hx hb d_T_byteAt_22 ?_
      refine lv_goto (tgt := 27) hx hb d_T_byteAt_23 (by decide) ?_
      exact k_T_byteAt_27 X hA zz sT (((zT_bytes sT) v1.toNatClampNeg) &&& (255 : Int32)) _ hG adT adT_bytes _ _ hP hD hS _ (lv_sub hl [] rfl)
set_option maxRecDepth 100000 in
set_option maxHeartbeats 4000000 in
theorem c_T_byteAt (l : Launch) (dC : Nat → ClassId) (dI : Nat → Nat → Nat) (cB cI cL : ClassId) (sz : Nat) (adT adT_bytes : Nat) (sT : zT) (v1 : Int32) (a : Int32) (hG : g_T_byteAt sT v1 = some a) : Met l y_T_byteAt (zw y_T_byteAt b_T_byteAt 2 (some .int)) ({ frames := 0, cells := 0, slots := 0, locals := 0 }) (va_Pc [.ref adT, .int v1] (zpre dC dI cB cI cL sz (zwT adT adT_bytes cB cI cL sT))) (q_T_byteAt dC dI cB cI cL (va_A (zwT adT adT_bytes cB cI cL sT) sz) adT adT_bytes sT a) 0 0 (va_A (zwT adT adT_bytes cB cI cL sT) sz) := by
  refine Met.ofW (cc := b_T_byteAt) (maxL := 2) (ret := (some .int)) (by decide) rfl ?_
  intro p e s m args below meth c s₁ B hml hv
  obtain ⟨rfl, hsz, hP, zz, hD0⟩ := hv
  subst hsz
  have X := zx_of (F := 0) (L := 0) B hml (Nat.le_refl _) (Nat.le_refl _)
  have hD := hD0.self (sz := s.heap.size)
  have hA : ∀ q : Nat, s.heap.size ≤ q → va_A (zwT adT adT_bytes cB cI cL sT) s.heap.size q := fun q h => Or.inr h
  have hl := lv_entry ([.ref adT, .int v1]) (n := 2) (Nat.le_of_ble_eq_true rfl)
  rw [lg_entry_eq]
  generalize (lg_sl ([.ref adT, .int v1]) ++ List.replicate (2 - (lg_sl ([.ref adT, .int v1])).length) Slot.unset).toArray = ls at hl ⊢
  exact k_T_byteAt_0 X hA zz sT v1 a hG adT adT_bytes _ _ hP hD va_S.rf ls hl
noncomputable def g_W_at_c10 (r_10 : Int32) : Option ((Int32 ⊕ Nat)) := some (.inl r_10)
noncomputable def g_W_at_c2 (sT : zT) (v1 : Int32) : Option ((Int32 ⊕ Nat)) := (g_T_byteAt sT v1).bind (fun a => g_W_at_c10 a)
noncomputable def g_W_at (sT : zT) (v1 : Int32) : Option ((Int32 ⊕ Nat)) := (g_W_requireByte sT v1).bind (fun a => zmx (a) (fun r9 => g_W_at_c2 sT v1) (fun k9 => some (.inr k9)))
def q_W_at (dC : Nat → ClassId) (dI : Nat → Nat → Nat) (cB cI cL : ClassId) (A : Nat → Prop) (adW : Nat) (adT : Nat) (adT_bytes : Nat) (adR : Nat) (adG : Nat) (adF : Nat) (adH : Nat) (adD : Nat) (adP : Nat) (sT : zT) (a : (Int32 ⊕ Nat)) : Array Value → State → Outcome → State → Prop := zQx (α := Int32) (fun r => some (.int r)) (fun r (u : Unit) => (r) = a) (dC, dI) (fun u => (zwW adW adT adR adG adF adH adD adP ++ zwT adT adT_bytes cB cI cL sT)) A
set_option maxRecDepth 100000 in
set_option maxHeartbeats 4000000 in
theorem k_W_at_0 {p : Program} {l : Launch} {e : Env} {R : Room} {s : State} {m : MethodId} {args : Array Value} {below : List Frame} {meth : Method} {c : Code} {dC : Nat → ClassId} {dI : Nat → Nat → Nat} {cB cI cL : ClassId} {A : Nat → Prop} {adR adG adF adH adD adP : Nat} (X : zx p s m args meth c R R_W b_W_at (some .int) 2 7 119) (hA : ∀ q, s.heap.size ≤ q → A q) (zz : zk dC dI cB cI cL A s) (htr : l.stackTraces = false) (hnh : c.exceptionTable.isEmpty = true) (hAs : ∀ q, A q → ∀ cell, s.heap[q]? = some cell → cell.vm.isStatics = false) (hRc : 1 ≤ R.cells) (hRz : 6 ≤ R.slots)  (sT : zT) (v1 : Int32) (a : (Int32 ⊕ Nat)) (hG : g_W_at sT v1 = some a) (adW adT adT_bytes : Nat) (H : Heap) (locs : List Loc) (hP : va_P (dC, dI) zcl (zwW adW adT adR adG adF adH adD adP ++ zwT adT adT_bytes cB cI cL sT) H) (hD : va_D A (zwW adW adT adR adG adF adH adD adP ++ zwT adT adT_bytes cB cI cL sT)) (hS : va_S A s.heap H locs) (ls : Array Slot) (hl : lv_has ls 2 [(0, .ref adW), (1, .int v1)]) : W p l e R s m args below meth c H locs 0 0 (zMQ below (q_W_at dC dI cB cI cL A adW adT adT_bytes adR adG adF adH adD adP sT a) args s 1 6 A) (F0 m 0 ls []) := by
  obtain ⟨hx, hb, hr, hml, hown, hts, hlocks, hRf, hRl⟩ := id X
  unfold g_W_at at hG
  refine lv_aload_n hx hb d_W_at_0 rfl (lv_at hl 0 rfl) ?_
  refine lv_iload_n hx hb d_W_at_1 rfl (lv_at hl 1 rfl) ?_
  obtain ⟨a_2, hx_2, hG⟩ := zb hG
  have hr_2 := zrunXV (p := p) (e := e) (below := below) (meth := meth) (As := [.int v1]) (rest := []) (st0 := [.int v1, .ref adW]) (cells := 0) (slots := 0) X zz hP hD hS hA [0, 1, 2] (by decide) rfl (c_W_requireByte l dC dI cB cI cL H.size adW adT adT_bytes adR adG adF adH adD adP sT v1 _ hx_2 htr) zy_W_requireByte zv_W_requireByte (hts (.methodLink R_W 106 y_W_requireByte) zin_W_106) hl rfl rfl d_W_at_2 (lv_room (Nat.le_of_ble_eq_true rfl)) rfl rfl ⟨Nat.le_trans (Nat.le_of_ble_eq_true rfl) hRf, Nat.le_trans (Nat.le_of_ble_eq_true rfl) hRl⟩ ⟨(Nat.le_trans (Nat.le_of_ble_eq_true rfl) hRc), (Nat.le_trans (Nat.le_of_ble_eq_true rfl) hRz)⟩ 0 0 rfl rfl
  refine zcallX (wr := ([] : va_W)) hr_2 hP hD hS hA [0, 1, 2] [] rfl rfl (by decide) (by decide) hnh hlocks (by decide) (by decide) (fun k_2 u_2 t9 q9 hw_2 hP hD hF9 ht9 => ?_) (fun r_2 u_2 H locs hw_2 hP hD hS => ?_)
  · subst hw_2
    have hP : va_P (dC, dI) zcl (zwW adW adT adR adG adF adH adD adP ++ zwT adT adT_bytes cB cI cL sT) t9.heap := hP
    have hD : va_D A (zwW adW adT adR adG adF adH adD adP ++ zwT adT adT_bytes cB cI cL sT) := hD
    exact ⟨(), hP, hD, hF9, Or.inr ⟨k_2, q9, rfl, Option.some.inj hG, ht9⟩⟩
  subst hw_2
  have hP : va_P (dC, dI) zcl (zwW adW adT adR adG adF adH adD adP ++ zwT adT adT_bytes cB cI cL sT) H := hP
  have hD : va_D A (zwW adW adT adR adG adF adH adD adP ++ zwT adT adT_bytes cB cI cL sT) := hD
  have hG : g_W_at_c2 sT v1 = some a := hG
  unfold g_W_at_c2 at hG
  refine lv_aload_n hx hb d_W_at_5 rfl (lv_at hl 0 rfl) ?_
  refine va_get (D := (dC, dI)) (ci := 0) (v := .ref adT) (C := R_W) (T := F_W) (N := 7) hx hb hts zi_W hown zz.1 hP 0 rfl rfl 0 (by decide) (hts (.fieldLink R_W 12 "WireCodec" "tape" "LWireCodec$Tape;") zin_W_12) (fun _ h9 => h9) rfl d_W_at_6 ?_
  refine lv_iload_n hx hb d_W_at_9 rfl (lv_at hl 1 rfl) ?_
  obtain ⟨a_10, hx_10, hG⟩ := zb hG
  have hr_10 := zrunV (p := p) (e := e) (below := below) (meth := meth) (As := [.int v1]) (rest := []) (st0 := [.int v1, .ref adT]) (cells := 1) (slots := 6) X zz hP hD hS hA [1, 2] (by decide) rfl (c_T_byteAt l dC dI cB cI cL H.size adT adT_bytes sT v1 _ hx_10) zy_T_byteAt zv_T_byteAt (hts (.methodLink R_W 110 y_T_byteAt) zin_W_110) hl rfl rfl d_W_at_10 (lv_room (Nat.le_of_ble_eq_true rfl)) rfl rfl ⟨Nat.le_trans (Nat.le_of_ble_eq_true rfl) hRf, Nat.le_trans (Nat.le_of_ble_eq_true rfl) hRl⟩ ⟨(Nat.le_trans (Nat.le_of_ble_eq_true rfl) hRc), (Nat.le_trans (Nat.le_of_ble_eq_true rfl) hRz)⟩ 0 1 rfl rfl
  refine zcalli (wr := (zwW adW adT adR adG adF adH adD adP)) hr_10 hP hD hS hA [1, 2] [0] rfl rfl (by decide) (by decide) (fun r_10 u_10 H locs hw_10 hP hD hS => ?_)
  subst hw_10
  have hP : va_P (dC, dI) zcl (zwW adW adT adR adG adF adH adD adP ++ zwT adT adT_bytes cB cI cL sT) H := hP
  have hD : va_D A (zwW adW adT adR adG adF adH adD adP ++ zwT adT adT_bytes cB cI cL sT) := hD
  have hG : g_W_at_c10 r_10 = some a := hG
  unfold g_W_at_c10 at hG
  exact zxreti (u := ()) (v := r_10) X hlocks (Option.some.inj hG) hP hD hS d_W_at_13
set_option maxRecDepth 100000 in
set_option maxHeartbeats 4000000 in
theorem c_W_at (l : Launch) (dC : Nat → ClassId) (dI : Nat → Nat → Nat) (cB cI cL : ClassId) (sz : Nat) (adW adT adT_bytes adR adG adF adH adD adP : Nat) (sT : zT) (v1 : Int32) (a : (Int32 ⊕ Nat)) (hG : g_W_at sT v1 = some a) (htr : l.stackTraces = false) : zMet l y_W_at (zw y_W_at b_W_at 2 (some .int)) ({ frames := 7, cells := 1, slots := 6, locals := 119 }) (va_Pc [.ref adW, .int v1] (zpre dC dI cB cI cL sz (zwW adW adT adR adG adF adH adD adP ++ zwT adT adT_bytes cB cI cL sT))) (q_W_at dC dI cB cI cL (va_A (zwW adW adT adR adG adF adH adD adP ++ zwT adT adT_bytes cB cI cL sT) sz) adW adT adT_bytes adR adG adF adH adD adP sT a) 1 6 (va_A (zwW adW adT adR adG adF adH adD adP ++ zwT adT adT_bytes cB cI cL sT) sz) := by
  refine zMet.ofW (cc := b_W_at) (maxL := 2) (ret := (some .int)) (by decide) rfl ?_
  intro p e s m args below meth c s₁ B hml hv
  obtain ⟨rfl, hsz, hP, zz, hD0⟩ := hv
  subst hsz
  have X := zx_of (F := 7) (L := 119) B hml (Nat.le_refl _) (Nat.le_refl _)
  have hD := hD0.self (sz := s.heap.size)
  have hA : ∀ q : Nat, s.heap.size ≤ q → va_A (zwW adW adT adR adG adF adH adD adP ++ zwT adT adT_bytes cB cI cL sT) s.heap.size q := fun q h => Or.inr h
  have hl := lv_entry ([.ref adW, .int v1]) (n := 2) (Nat.le_of_ble_eq_true rfl)
  rw [lg_entry_eq]
  generalize (lg_sl ([.ref adW, .int v1]) ++ List.replicate (2 - (lg_sl ([.ref adW, .int v1])).length) Slot.unset).toArray = ls at hl ⊢
  have hnh := BodyLoose.noHandlers B (atoms_spec (ws := zw y_W_at b_W_at 2 (some .int)) B.pre _ List.mem_cons_self)
  have hAs := zstatics hP
  exact k_W_at_0 X hA zz htr hnh hAs (Nat.le_refl _) (Nat.le_refl _) sT v1 a hG adW adT adT_bytes _ _ hP hD va_S.rf ls hl
end

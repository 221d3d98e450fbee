def R_W : String := "WireCodec"
def F_W : u_T := fun k => match k with
  | 0 => ("WireCodec", "tape", "LWireCodec$Tape;", true)
  | 1 => ("WireCodec", "reader", "LWireCodec$Reader;", true)
  | 2 => ("WireCodec", "reading", "LWireCodec$Reading;", true)
  | 3 => ("WireCodec", "loadedFrame", "LWireCodec$Frame;", true)
  | 4 => ("WireCodec", "loadedHeader", "LWireCodec$Header;", true)
  | 5 => ("WireCodec", "drafted", "LWireCodec$Draft;", true)
  | _ => ("WireCodec", "told", "LWireCodec$Parameters;", true)
def zty_W : Nat → FieldType := fun k => match k with
  | 0 => .object "WireCodec$Tape"
  | 1 => .object "WireCodec$Reader"
  | 2 => .object "WireCodec$Reading"
  | 3 => .object "WireCodec$Frame"
  | 4 => .object "WireCodec$Header"
  | 5 => .object "WireCodec$Draft"
  | _ => .object "WireCodec$Parameters"
theorem znm_W : ∀ a, a < 7 → ∀ b, b < 7 → a ≠ b → (F_W a).2.1 ≠ (F_W b).2.1 := by decide +kernel
theorem zty_W_ok : ∀ k, k < 7 → parseFieldDescriptor (F_W k).2.2.1 = some (zty_W k) := by decide +kernel
def R_T : String := "WireCodec$Tape"
def F_T : u_T := fun k => match k with
  | 0 => ("WireCodec$Tape", "bytes", "[B", false)
  | 1 => ("WireCodec$Tape", "cursor", "I", false)
  | _ => ("WireCodec$Tape", "length", "I", false)
def zty_T : Nat → FieldType := fun k => match k with
  | 0 => .array .byte
  | 1 => .int
  | _ => .int
theorem znm_T : ∀ a, a < 3 → ∀ b, b < 3 → a ≠ b → (F_T a).2.1 ≠ (F_T b).2.1 := by decide +kernel
theorem zty_T_ok : ∀ k, k < 3 → parseFieldDescriptor (F_T k).2.2.1 = some (zty_T k) := by decide +kernel
def R_R : String := "WireCodec$Reader"
def F_R : u_T := fun k => match k with
  | 0 => ("WireCodec$Reader", "tape", "LWireCodec$Tape;", true)
  | 1 => ("WireCodec$Reader", "place", "I", false)
  | 2 => ("WireCodec$Reader", "limit", "I", false)
  | _ => ("WireCodec$Reader", "over", "Z", false)
def zty_R : Nat → FieldType := fun k => match k with
  | 0 => .object "WireCodec$Tape"
  | 1 => .int
  | 2 => .int
  | _ => .boolean
theorem znm_R : ∀ a, a < 4 → ∀ b, b < 4 → a ≠ b → (F_R a).2.1 ≠ (F_R b).2.1 := by decide +kernel
theorem zty_R_ok : ∀ k, k < 4 → parseFieldDescriptor (F_R k).2.2.1 = some (zty_R k) := by decide +kernel
def R_G : String := "WireCodec$Reading"
def F_G : u_T := fun k => match k with
  | 0 => ("WireCodec$Reading", "places", "[I", false)
  | 1 => ("WireCodec$Reading", "frameCount", "I", false)
  | 2 => ("WireCodec$Reading", "packetCount", "I", false)
  | 3 => ("WireCodec$Reading", "limit", "I", false)
  | 4 => ("WireCodec$Reading", "names", "I", false)
  | 5 => ("WireCodec$Reading", "wrong", "I", false)
  | _ => ("WireCodec$Reading", "wrongPlace", "I", false)
def zty_G : Nat → FieldType := fun k => match k with
  | 0 => .array .int
  | 1 => .int
  | 2 => .int
  | 3 => .int
  | 4 => .int
  | 5 => .int
  | _ => .int
theorem znm_G : ∀ a, a < 7 → ∀ b, b < 7 → a ≠ b → (F_G a).2.1 ≠ (F_G b).2.1 := by decide +kernel
theorem zty_G_ok : ∀ k, k < 7 → parseFieldDescriptor (F_G k).2.2.1 = some (zty_G k) := by decide +kernel
def R_F : String := "WireCodec$Frame"
def F_F : u_T := fun k => match k with
  | 0 => ("WireCodec$Frame", "parts", "[J", true)
  | 1 => ("WireCodec$Frame", "dataPlace", "I", false)
  | 2 => ("WireCodec$Frame", "secretPlace", "I", false)
  | 3 => ("WireCodec$Frame", "secretBytes", "I", false)
  | 4 => ("WireCodec$Frame", "rangesPlace", "I", false)
  | 5 => ("WireCodec$Frame", "low", "J", false)
  | _ => ("WireCodec$Frame", "high", "J", false)
def zty_F : Nat → FieldType := fun k => match k with
  | 0 => .array .long
  | 1 => .int
  | 2 => .int
  | 3 => .int
  | 4 => .int
  | 5 => .long
  | _ => .long
theorem znm_F : ∀ a, a < 7 → ∀ b, b < 7 → a ≠ b → (F_F a).2.1 ≠ (F_F b).2.1 := by decide +kernel
theorem zty_F_ok : ∀ k, k < 7 → parseFieldDescriptor (F_F k).2.2.1 = some (zty_F k) := by decide +kernel
def R_H : String := "WireCodec$Header"
def F_H : u_T := fun k => match k with
  | _ => ("WireCodec$Header", "parts", "[I", true)
def zty_H : Nat → FieldType := fun k => match k with
  | _ => .array .int
theorem znm_H : ∀ a, a < 1 → ∀ b, b < 1 → a ≠ b → (F_H a).2.1 ≠ (F_H b).2.1 := by decide +kernel
theorem zty_H_ok : ∀ k, k < 1 → parseFieldDescriptor (F_H k).2.2.1 = some (zty_H k) := by decide +kernel
def R_D : String := "WireCodec$Draft"
def F_D : u_T := fun k => match k with
  | 0 => ("WireCodec$Draft", "parts", "[J", true)
  | 1 => ("WireCodec$Draft", "bytes", "[B", true)
  | 2 => ("WireCodec$Draft", "lows", "[J", true)
  | 3 => ("WireCodec$Draft", "highs", "[J", true)
  | 4 => ("WireCodec$Draft", "length", "I", false)
  | _ => ("WireCodec$Draft", "ranges", "I", false)
def zty_D : Nat → FieldType := fun k => match k with
  | 0 => .array .long
  | 1 => .array .byte
  | 2 => .array .long
  | 3 => .array .long
  | 4 => .int
  | _ => .int
theorem znm_D : ∀ a, a < 6 → ∀ b, b < 6 → a ≠ b → (F_D a).2.1 ≠ (F_D b).2.1 := by decide +kernel
theorem zty_D_ok : ∀ k, k < 6 → parseFieldDescriptor (F_D k).2.2.1 = some (zty_D k) := by decide +kernel
def R_P : String := "WireCodec$Parameters"
def F_P : u_T := fun k => match k with
  | 0 => ("WireCodec$Parameters", "values", "[J", true)
  | _ => ("WireCodec$Parameters", "seen", "I", false)
def zty_P : Nat → FieldType := fun k => match k with
  | 0 => .array .long
  | _ => .int
theorem znm_P : ∀ a, a < 2 → ∀ b, b < 2 → a ≠ b → (F_P a).2.1 ≠ (F_P b).2.1 := by decide +kernel
theorem zty_P_ok : ∀ k, k < 2 → parseFieldDescriptor (F_P k).2.2.1 = some (zty_P k) := by decide +kernel
def R_M : String := "WireCodecModel"
def F_M : u_T := fun k => match k with
  | 0 => ("WireCodecModel", "thrown", "I", false)
  | 1 => ("WireCodecModel", "tape", "[B", true)
  | 2 => ("WireCodecModel", "size", "I", false)
  | 3 => ("WireCodecModel", "fault", "I", false)
  | 4 => ("WireCodecModel", "faultAt", "I", false)
  | 5 => ("WireCodecModel", "frames", "I", false)
  | 6 => ("WireCodecModel", "frameAt", "[I", true)
  | 7 => ("WireCodecModel", "framesEnd", "I", false)
  | 8 => ("WireCodecModel", "field", "[J", true)
  | 9 => ("WireCodecModel", "dataAt", "I", false)
  | 10 => ("WireCodecModel", "dataSize", "I", false)
  | 11 => ("WireCodecModel", "secretAt", "I", false)
  | 12 => ("WireCodecModel", "ranges", "I", false)
  | 13 => ("WireCodecModel", "rangesAt", "I", false)
  | 14 => ("WireCodecModel", "at", "I", false)
  | 15 => ("WireCodecModel", "over", "Z", false)
  | 16 => ("WireCodecModel", "end", "I", false)
  | 17 => ("WireCodecModel", "draft", "[J", true)
  | 18 => ("WireCodecModel", "given", "[B", true)
  | 19 => ("WireCodecModel", "gives", "I", false)
  | 20 => ("WireCodecModel", "low", "[J", true)
  | 21 => ("WireCodecModel", "high", "[J", true)
  | 22 => ("WireCodecModel", "spans", "I", false)
  | 23 => ("WireCodecModel", "packets", "I", false)
  | 24 => ("WireCodecModel", "packet", "[I", true)
  | _ => ("WireCodecModel", "known", "[J", true)
def zty_M : Nat → FieldType := fun k => match k with
  | 0 => .int
  | 1 => .array .byte
  | 2 => .int
  | 3 => .int
  | 4 => .int
  | 5 => .int
  | 6 => .array .int
  | 7 => .int
  | 8 => .array .long
  | 9 => .int
  | 10 => .int
  | 11 => .int
  | 12 => .int
  | 13 => .int
  | 14 => .int
  | 15 => .boolean
  | 16 => .int
  | 17 => .array .long
  | 18 => .array .byte
  | 19 => .int
  | 20 => .array .long
  | 21 => .array .long
  | 22 => .int
  | 23 => .int
  | 24 => .array .int
  | _ => .array .long
theorem znm_M : ∀ a, a < 26 → ∀ b, b < 26 → a ≠ b → (F_M a).2.1 ≠ (F_M b).2.1 := by decide +kernel
theorem zty_M_ok : ∀ k, k < 26 → parseFieldDescriptor (F_M k).2.2.1 = some (zty_M k) := by decide +kernel
def R_Ar : String := "java/util/Arrays"
def R_In : String := "java/lang/Integer"
def R_Ma : String := "java/lang/Math"
def R_L : String := "WireCodecLaw"
abbrev b_W_init : ByteArray := prog_1_method_1_code
def y_W_init : MethodName := ⟨R_W, "<init>", "()V"⟩
abbrev b_W_feed : ByteArray := prog_1_method_2_code
def y_W_feed : MethodName := ⟨R_W, "feed", "(JI)I"⟩
abbrev b_W_number : ByteArray := prog_1_method_3_code
def y_W_number : MethodName := ⟨R_W, "number", "(JI)I"⟩
abbrev b_W_clear : ByteArray := prog_1_method_4_code
def y_W_clear : MethodName := ⟨R_W, "clear", "()I"⟩
abbrev b_W_size : ByteArray := prog_1_method_5_code
def y_W_size : MethodName := ⟨R_W, "size", "()I"⟩
abbrev b_W_at : ByteArray := prog_1_method_6_code
def y_W_at : MethodName := ⟨R_W, "at", "(I)I"⟩
abbrev b_W_read : ByteArray := prog_1_method_7_code
def y_W_read : MethodName := ⟨R_W, "read", "(I)J"⟩
abbrev b_W_frames : ByteArray := prog_1_method_8_code
def y_W_frames : MethodName := ⟨R_W, "frames", "(II)I"⟩
abbrev b_W_fault : ByteArray := prog_1_method_9_code
def y_W_fault : MethodName := ⟨R_W, "fault", "(Z)I"⟩
abbrev b_W_frame : ByteArray := prog_1_method_10_code
def y_W_frame : MethodName := ⟨R_W, "frame", "(II)J"⟩
abbrev b_W_data : ByteArray := prog_1_method_11_code
def y_W_data : MethodName := ⟨R_W, "data", "(IIZ)I"⟩
abbrev b_W_range : ByteArray := prog_1_method_12_code
def y_W_range : MethodName := ⟨R_W, "range", "(IIZ)J"⟩
abbrev b_W_draft : ByteArray := prog_1_method_13_code
def y_W_draft : MethodName := ⟨R_W, "draft", "()V"⟩
abbrev b_W_set : ByteArray := prog_1_method_14_code
def y_W_set : MethodName := ⟨R_W, "set", "(IJ)V"⟩
abbrev b_W_add : ByteArray := prog_1_method_15_code
def y_W_add : MethodName := ⟨R_W, "add", "(JI)I"⟩
abbrev b_W_span : ByteArray := prog_1_method_16_code
def y_W_span : MethodName := ⟨R_W, "span", "(JJ)V"⟩
abbrev b_W_put : ByteArray := prog_1_method_17_code
def y_W_put : MethodName := ⟨R_W, "put", "(I)I"⟩
abbrev b_W_head : ByteArray := prog_1_method_18_code
def y_W_head : MethodName := ⟨R_W, "head", "(II)I"⟩
abbrev b_W_datagram : ByteArray := prog_1_method_19_code
def y_W_datagram : MethodName := ⟨R_W, "datagram", "(II)I"⟩
abbrev b_W_packet : ByteArray := prog_1_method_20_code
def y_W_packet : MethodName := ⟨R_W, "packet", "(II)J"⟩
abbrev b_W_lead : ByteArray := prog_1_method_21_code
def y_W_lead : MethodName := ⟨R_W, "lead", "(IIIII)I"⟩
abbrev b_W_cut : ByteArray := prog_1_method_22_code
def y_W_cut : MethodName := ⟨R_W, "cut", "(JJ)I"⟩
abbrev b_W_grow : ByteArray := prog_1_method_23_code
def y_W_grow : MethodName := ⟨R_W, "grow", "(JJI)J"⟩
abbrev b_W_parameters : ByteArray := prog_1_method_24_code
def y_W_parameters : MethodName := ⟨R_W, "parameters", "(IZ)I"⟩
abbrev b_W_parameter : ByteArray := prog_1_method_25_code
def y_W_parameter : MethodName := ⟨R_W, "parameter", "(I)J"⟩
abbrev b_W_keepWritten : ByteArray := prog_1_method_26_code
def y_W_keepWritten : MethodName := ⟨R_W, "keepWritten", "()I"⟩
abbrev b_W_requireByte : ByteArray := prog_1_method_27_code
def y_W_requireByte : MethodName := ⟨R_W, "requireByte", "(I)V"⟩
abbrev b_W_requirePlace : ByteArray := prog_1_method_28_code
def y_W_requirePlace : MethodName := ⟨R_W, "requirePlace", "(I)V"⟩
abbrev b_W_requireNames : ByteArray := prog_1_method_29_code
def y_W_requireNames : MethodName := ⟨R_W, "requireNames", "(I)V"⟩
abbrev b_W_startAtFrame : ByteArray := prog_1_method_30_code
def y_W_startAtFrame : MethodName := ⟨R_W, "startAtFrame", "(I)V"⟩
abbrev b_W_isNumber : ByteArray := prog_1_method_31_code
def y_W_isNumber : MethodName := ⟨R_W, "isNumber", "(J)Z"⟩
abbrev b_W_isNumberOrNone : ByteArray := prog_1_method_32_code
def y_W_isNumberOrNone : MethodName := ⟨R_W, "isNumberOrNone", "(J)Z"⟩
abbrev b_W_isNumberSize : ByteArray := prog_1_method_33_code
def y_W_isNumberSize : MethodName := ⟨R_W, "isNumberSize", "(I)Z"⟩
abbrev b_W_fewestBytes : ByteArray := prog_1_method_34_code
def y_W_fewestBytes : MethodName := ⟨R_W, "fewestBytes", "(J)I"⟩
abbrev b_W_fieldsHold : ByteArray := prog_1_method_35_code
def y_W_fieldsHold : MethodName := ⟨R_W, "fieldsHold", "(IJJJ)Z"⟩
abbrev b_M_init : ByteArray := prog_10_method_1_code
def y_M_init : MethodName := ⟨R_M, "<init>", "()V"⟩
abbrev b_M_thrown : ByteArray := prog_10_method_2_code
def y_M_thrown : MethodName := ⟨R_M, "thrown", "()I"⟩
abbrev b_M_fails : ByteArray := prog_10_method_3_code
def y_M_fails : MethodName := ⟨R_M, "fails", "(ZI)Z"⟩
abbrev b_M_within : ByteArray := prog_10_method_4_code
def y_M_within : MethodName := ⟨R_M, "within", "(JJJ)Z"⟩
abbrev b_M_isNumber : ByteArray := prog_10_method_5_code
def y_M_isNumber : MethodName := ⟨R_M, "isNumber", "(J)Z"⟩
abbrev b_M_byteAt : ByteArray := prog_10_method_6_code
def y_M_byteAt : MethodName := ⟨R_M, "byteAt", "(I)I"⟩
abbrev b_M_write : ByteArray := prog_10_method_7_code
def y_M_write : MethodName := ⟨R_M, "write", "(JI)V"⟩
abbrev b_M_feed : ByteArray := prog_10_method_8_code
def y_M_feed : MethodName := ⟨R_M, "feed", "(JI)I"⟩
abbrev b_M_needs : ByteArray := prog_10_method_9_code
def y_M_needs : MethodName := ⟨R_M, "needs", "(J)I"⟩
abbrev b_M_writeNumber : ByteArray := prog_10_method_10_code
def y_M_writeNumber : MethodName := ⟨R_M, "writeNumber", "(JI)V"⟩
abbrev b_M_number : ByteArray := prog_10_method_11_code
def y_M_number : MethodName := ⟨R_M, "number", "(JI)I"⟩
abbrev b_M_begin : ByteArray := prog_10_method_12_code
def y_M_begin : MethodName := ⟨R_M, "begin", "()V"⟩
abbrev b_M_forget : ByteArray := prog_10_method_13_code
def y_M_forget : MethodName := ⟨R_M, "forget", "()V"⟩
abbrev b_M_clear : ByteArray := prog_10_method_14_code
def y_M_clear : MethodName := ⟨R_M, "clear", "()I"⟩
abbrev b_M_size : ByteArray := prog_10_method_15_code
def y_M_size : MethodName := ⟨R_M, "size", "()I"⟩
abbrev b_M_at : ByteArray := prog_10_method_16_code
def y_M_at : MethodName := ⟨R_M, "at", "(I)I"⟩
abbrev b_M_look : ByteArray := prog_10_method_17_code
def y_M_look : MethodName := ⟨R_M, "look", "(II)V"⟩
abbrev b_M_take : ByteArray := prog_10_method_18_code
def y_M_take : MethodName := ⟨R_M, "take", "(I)J"⟩
abbrev b_M_takeNumber : ByteArray := prog_10_method_19_code
def y_M_takeNumber : MethodName := ⟨R_M, "takeNumber", "()J"⟩
abbrev b_M_pass : ByteArray := prog_10_method_20_code
def y_M_pass : MethodName := ⟨R_M, "pass", "(J)I"⟩
abbrev b_M_read : ByteArray := prog_10_method_21_code
def y_M_read : MethodName := ⟨R_M, "read", "(I)J"⟩
abbrev b_M_isAck : ByteArray := prog_10_method_22_code
def y_M_isAck : MethodName := ⟨R_M, "isAck", "(I)Z"⟩
abbrev b_M_fields : ByteArray := prog_10_method_23_code
def y_M_fields : MethodName := ⟨R_M, "fields", "(I)I"⟩
abbrev b_M_takeFields : ByteArray := prog_10_method_24_code
def y_M_takeFields : MethodName := ⟨R_M, "takeFields", "(I)V"⟩
abbrev b_M_takeData : ByteArray := prog_10_method_25_code
def y_M_takeData : MethodName := ⟨R_M, "takeData", "(J)V"⟩
abbrev b_M_takeStream : ByteArray := prog_10_method_26_code
def y_M_takeStream : MethodName := ⟨R_M, "takeStream", "(I)V"⟩
abbrev b_M_takeAck : ByteArray := prog_10_method_27_code
def y_M_takeAck : MethodName := ⟨R_M, "takeAck", "(I)V"⟩
abbrev b_M_takeName : ByteArray := prog_10_method_28_code
def y_M_takeName : MethodName := ⟨R_M, "takeName", "()V"⟩
abbrev b_M_takePadding : ByteArray := prog_10_method_29_code
def y_M_takePadding : MethodName := ⟨R_M, "takePadding", "()V"⟩
abbrev b_M_kindAt : ByteArray := prog_10_method_30_code
def y_M_kindAt : MethodName := ⟨R_M, "kindAt", "(I)I"⟩
abbrev b_M_parse : ByteArray := prog_10_method_31_code
def y_M_parse : MethodName := ⟨R_M, "parse", "(II)V"⟩
abbrev b_M_edge : ByteArray := prog_10_method_32_code
def y_M_edge : MethodName := ⟨R_M, "edge", "(IZ)J"⟩
abbrev b_M_isRight : ByteArray := prog_10_method_33_code
def y_M_isRight : MethodName := ⟨R_M, "isRight", "(I)Z"⟩
abbrev b_M_flaw : ByteArray := prog_10_method_34_code
def y_M_flaw : MethodName := ⟨R_M, "flaw", "(II)I"⟩
abbrev b_M_tell : ByteArray := prog_10_method_35_code
def y_M_tell : MethodName := ⟨R_M, "tell", "(II)V"⟩
abbrev b_M_frames : ByteArray := prog_10_method_36_code
def y_M_frames : MethodName := ⟨R_M, "frames", "(II)I"⟩
abbrev b_M_fault : ByteArray := prog_10_method_37_code
def y_M_fault : MethodName := ⟨R_M, "fault", "(Z)I"⟩
abbrev b_M_parsed : ByteArray := prog_10_method_38_code
def y_M_parsed : MethodName := ⟨R_M, "parsed", "(I)Z"⟩
abbrev b_M_frame : ByteArray := prog_10_method_39_code
def y_M_frame : MethodName := ⟨R_M, "frame", "(II)J"⟩
abbrev b_M_data : ByteArray := prog_10_method_40_code
def y_M_data : MethodName := ⟨R_M, "data", "(IIZ)I"⟩
abbrev b_M_range : ByteArray := prog_10_method_41_code
def y_M_range : MethodName := ⟨R_M, "range", "(IIZ)J"⟩
abbrev b_M_draft : ByteArray := prog_10_method_42_code
def y_M_draft : MethodName := ⟨R_M, "draft", "()V"⟩
abbrev b_M_set : ByteArray := prog_10_method_43_code
def y_M_set : MethodName := ⟨R_M, "set", "(IJ)V"⟩
abbrev b_M_add : ByteArray := prog_10_method_44_code
def y_M_add : MethodName := ⟨R_M, "add", "(JI)I"⟩
abbrev b_M_span : ByteArray := prog_10_method_45_code
def y_M_span : MethodName := ⟨R_M, "span", "(JJ)V"⟩
abbrev b_M_suits : ByteArray := prog_10_method_46_code
def y_M_suits : MethodName := ⟨R_M, "suits", "(I)Z"⟩
abbrev b_M_writeGiven : ByteArray := prog_10_method_47_code
def y_M_writeGiven : MethodName := ⟨R_M, "writeGiven", "(I)V"⟩
abbrev b_M_sizeOf : ByteArray := prog_10_method_48_code
def y_M_sizeOf : MethodName := ⟨R_M, "sizeOf", "(I)I"⟩
abbrev b_M_writeAck : ByteArray := prog_10_method_49_code
def y_M_writeAck : MethodName := ⟨R_M, "writeAck", "(I)V"⟩
abbrev b_M_writeStream : ByteArray := prog_10_method_50_code
def y_M_writeStream : MethodName := ⟨R_M, "writeStream", "()V"⟩
abbrev b_M_writeFields : ByteArray := prog_10_method_51_code
def y_M_writeFields : MethodName := ⟨R_M, "writeFields", "(I)V"⟩
abbrev b_M_put : ByteArray := prog_10_method_52_code
def y_M_put : MethodName := ⟨R_M, "put", "(I)I"⟩
abbrev b_M_note : ByteArray := prog_10_method_53_code
def y_M_note : MethodName := ⟨R_M, "note", "(II)V"⟩
abbrev b_M_takeConnection : ByteArray := prog_10_method_54_code
def y_M_takeConnection : MethodName := ⟨R_M, "takeConnection", "(I)I"⟩
abbrev b_M_headerFlaw : ByteArray := prog_10_method_55_code
def y_M_headerFlaw : MethodName := ⟨R_M, "headerFlaw", "(II)I"⟩
abbrev b_M_shortFlaw : ByteArray := prog_10_method_56_code
def y_M_shortFlaw : MethodName := ⟨R_M, "shortFlaw", "(II)I"⟩
abbrev b_M_longFlaw : ByteArray := prog_10_method_57_code
def y_M_longFlaw : MethodName := ⟨R_M, "longFlaw", "(I)I"⟩
abbrev b_M_head : ByteArray := prog_10_method_58_code
def y_M_head : MethodName := ⟨R_M, "head", "(II)I"⟩
abbrev b_M_isSame : ByteArray := prog_10_method_59_code
def y_M_isSame : MethodName := ⟨R_M, "isSame", "()Z"⟩
abbrev b_M_datagram : ByteArray := prog_10_method_60_code
def y_M_datagram : MethodName := ⟨R_M, "datagram", "(II)I"⟩
abbrev b_M_packet : ByteArray := prog_10_method_61_code
def y_M_packet : MethodName := ⟨R_M, "packet", "(II)J"⟩
abbrev b_M_lead : ByteArray := prog_10_method_62_code
def y_M_lead : MethodName := ⟨R_M, "lead", "(IIIII)I"⟩
abbrev b_M_cut : ByteArray := prog_10_method_63_code
def y_M_cut : MethodName := ⟨R_M, "cut", "(JJ)I"⟩
abbrev b_M_grow : ByteArray := prog_10_method_64_code
def y_M_grow : MethodName := ⟨R_M, "grow", "(JJI)J"⟩
abbrev b_M_hasBytes : ByteArray := prog_10_method_65_code
def y_M_hasBytes : MethodName := ⟨R_M, "hasBytes", "(I)Z"⟩
abbrev b_M_forgetParameters : ByteArray := prog_10_method_66_code
def y_M_forgetParameters : MethodName := ⟨R_M, "forgetParameters", "()V"⟩
abbrev b_M_suitsId : ByteArray := prog_10_method_67_code
def y_M_suitsId : MethodName := ⟨R_M, "suitsId", "(III)Z"⟩
abbrev b_M_parameterFlaw : ByteArray := prog_10_method_68_code
def y_M_parameterFlaw : MethodName := ⟨R_M, "parameterFlaw", "(ZI)I"⟩
abbrev b_M_parameters : ByteArray := prog_10_method_69_code
def y_M_parameters : MethodName := ⟨R_M, "parameters", "(IZ)I"⟩
abbrev b_M_parameter : ByteArray := prog_10_method_70_code
def y_M_parameter : MethodName := ⟨R_M, "parameter", "(I)J"⟩
abbrev b_D_init : ByteArray := prog_2_method_1_code
def y_D_init : MethodName := ⟨R_D, "<init>", "()V"⟩
abbrev b_D_empty : ByteArray := prog_2_method_2_code
def y_D_empty : MethodName := ⟨R_D, "empty", "()V"⟩
abbrev b_D_append : ByteArray := prog_2_method_3_code
def y_D_append : MethodName := ⟨R_D, "append", "(JI)V"⟩
abbrev b_D_isBelowRanges : ByteArray := prog_2_method_4_code
def y_D_isBelowRanges : MethodName := ⟨R_D, "isBelowRanges", "(J)Z"⟩
abbrev b_D_appendRange : ByteArray := prog_2_method_5_code
def y_D_appendRange : MethodName := ⟨R_D, "appendRange", "(JJ)V"⟩
abbrev b_D_isFrame : ByteArray := prog_2_method_6_code
def y_D_isFrame : MethodName := ⟨R_D, "isFrame", "(I)Z"⟩
abbrev b_D_isHeader : ByteArray := prog_2_method_7_code
def y_D_isHeader : MethodName := ⟨R_D, "isHeader", "(IIIII)Z"⟩
abbrev b_D_writeFrame : ByteArray := prog_2_method_8_code
def y_D_writeFrame : MethodName := ⟨R_D, "writeFrame", "(LWireCodec$Tape;I)V"⟩
abbrev b_D_writeHeader : ByteArray := prog_2_method_9_code
def y_D_writeHeader : MethodName := ⟨R_D, "writeHeader", "(LWireCodec$Tape;IIIII)V"⟩
abbrev b_D_isBit : ByteArray := prog_2_method_10_code
def y_D_isBit : MethodName := ⟨R_D, "isBit", "(J)Z"⟩
abbrev b_D_shapeOf : ByteArray := prog_2_method_11_code
def y_D_shapeOf : MethodName := ⟨R_D, "shapeOf", "(I)I"⟩
abbrev b_D_firstByte : ByteArray := prog_2_method_12_code
def y_D_firstByte : MethodName := ⟨R_D, "firstByte", "(I)I"⟩
abbrev b_D_isAck : ByteArray := prog_2_method_13_code
def y_D_isAck : MethodName := ⟨R_D, "isAck", "()Z"⟩
abbrev b_D_hasCounts : ByteArray := prog_2_method_14_code
def y_D_hasCounts : MethodName := ⟨R_D, "hasCounts", "()Z"⟩
abbrev b_D_hasShape : ByteArray := prog_2_method_15_code
def y_D_hasShape : MethodName := ⟨R_D, "hasShape", "(I)Z"⟩
abbrev b_D_writeShape : ByteArray := prog_2_method_16_code
def y_D_writeShape : MethodName := ⟨R_D, "writeShape", "(LWireCodec$Tape;I)V"⟩
abbrev b_D_writeAck : ByteArray := prog_2_method_17_code
def y_D_writeAck : MethodName := ⟨R_D, "writeAck", "(LWireCodec$Tape;I)V"⟩
abbrev b_F_init : ByteArray := prog_3_method_1_code
def y_F_init : MethodName := ⟨R_F, "<init>", "()V"⟩
abbrev b_F_parse : ByteArray := prog_3_method_2_code
def y_F_parse : MethodName := ⟨R_F, "parse", "(LWireCodec$Reader;I)I"⟩
abbrev b_F_walkRanges : ByteArray := prog_3_method_3_code
def y_F_walkRanges : MethodName := ⟨R_F, "walkRanges", "(LWireCodec$Reader;I)V"⟩
abbrev b_F_forget : ByteArray := prog_3_method_4_code
def y_F_forget : MethodName := ⟨R_F, "forget", "()V"⟩
abbrev b_F_takeShape : ByteArray := prog_3_method_5_code
def y_F_takeShape : MethodName := ⟨R_F, "takeShape", "(LWireCodec$Reader;I)V"⟩
abbrev b_F_takeRest : ByteArray := prog_3_method_6_code
def y_F_takeRest : MethodName := ⟨R_F, "takeRest", "(LWireCodec$Reader;II)V"⟩
abbrev b_F_takeData : ByteArray := prog_3_method_7_code
def y_F_takeData : MethodName := ⟨R_F, "takeData", "(LWireCodec$Reader;J)V"⟩
abbrev b_F_takeStream : ByteArray := prog_3_method_8_code
def y_F_takeStream : MethodName := ⟨R_F, "takeStream", "(LWireCodec$Reader;I)V"⟩
abbrev b_F_takeRangeCount : ByteArray := prog_3_method_9_code
def y_F_takeRangeCount : MethodName := ⟨R_F, "takeRangeCount", "(LWireCodec$Reader;)V"⟩
abbrev b_F_takeCounts : ByteArray := prog_3_method_10_code
def y_F_takeCounts : MethodName := ⟨R_F, "takeCounts", "(LWireCodec$Reader;I)V"⟩
abbrev b_H_init : ByteArray := prog_4_method_1_code
def y_H_init : MethodName := ⟨R_H, "<init>", "()V"⟩
abbrev b_H_parse : ByteArray := prog_4_method_2_code
def y_H_parse : MethodName := ⟨R_H, "parse", "(LWireCodec$Reader;I)I"⟩
abbrev b_H_goesTo : ByteArray := prog_4_method_3_code
def y_H_goesTo : MethodName := ⟨R_H, "goesTo", "(LWireCodec$Tape;II)Z"⟩
abbrev b_H_parseShort : ByteArray := prog_4_method_4_code
def y_H_parseShort : MethodName := ⟨R_H, "parseShort", "(LWireCodec$Reader;II)I"⟩
abbrev b_H_parseLong : ByteArray := prog_4_method_5_code
def y_H_parseLong : MethodName := ⟨R_H, "parseLong", "(LWireCodec$Reader;I)I"⟩
abbrev b_H_sizeOfName : ByteArray := prog_4_method_6_code
def y_H_sizeOfName : MethodName := ⟨R_H, "sizeOfName", "(LWireCodec$Reader;I)I"⟩
abbrev b_H_parseTokenAndLength : ByteArray := prog_4_method_7_code
def y_H_parseTokenAndLength : MethodName := ⟨R_H, "parseTokenAndLength", "(LWireCodec$Reader;)I"⟩
abbrev b_P_init : ByteArray := prog_5_method_1_code
def y_P_init : MethodName := ⟨R_P, "<init>", "()V"⟩
abbrev b_P_forget : ByteArray := prog_5_method_2_code
def y_P_forget : MethodName := ⟨R_P, "forget", "()V"⟩
abbrev b_P_parseNext : ByteArray := prog_5_method_3_code
def y_P_parseNext : MethodName := ⟨R_P, "parseNext", "(LWireCodec$Reader;Z)I"⟩
abbrev b_R_init : ByteArray := prog_6_method_1_code
def y_R_init : MethodName := ⟨R_R, "<init>", "(LWireCodec$Tape;)V"⟩
abbrev b_R_start : ByteArray := prog_6_method_2_code
def y_R_start : MethodName := ⟨R_R, "start", "(II)V"⟩
abbrev b_R_left : ByteArray := prog_6_method_3_code
def y_R_left : MethodName := ⟨R_R, "left", "()I"⟩
abbrev b_R_takeBytes : ByteArray := prog_6_method_4_code
def y_R_takeBytes : MethodName := ⟨R_R, "takeBytes", "(J)I"⟩
abbrev b_R_takeWord : ByteArray := prog_6_method_5_code
def y_R_takeWord : MethodName := ⟨R_R, "takeWord", "(I)J"⟩
abbrev b_R_takeNumber : ByteArray := prog_6_method_6_code
def y_R_takeNumber : MethodName := ⟨R_R, "takeNumber", "()J"⟩
abbrev b_R_numberOfAll : ByteArray := prog_6_method_7_code
def y_R_numberOfAll : MethodName := ⟨R_R, "numberOfAll", "(IJ)J"⟩
abbrev b_R_takeZeros : ByteArray := prog_6_method_8_code
def y_R_takeZeros : MethodName := ⟨R_R, "takeZeros", "()I"⟩
abbrev b_G_init : ByteArray := prog_7_method_1_code
def y_G_init : MethodName := ⟨R_G, "<init>", "()V"⟩
abbrev b_G_restart : ByteArray := prog_7_method_2_code
def y_G_restart : MethodName := ⟨R_G, "restart", "(II)V"⟩
abbrev b_G_fail : ByteArray := prog_7_method_3_code
def y_G_fail : MethodName := ⟨R_G, "fail", "(II)V"⟩
abbrev b_G_keepFrame : ByteArray := prog_7_method_4_code
def y_G_keepFrame : MethodName := ⟨R_G, "keepFrame", "(I)V"⟩
abbrev b_G_keepPacket : ByteArray := prog_7_method_5_code
def y_G_keepPacket : MethodName := ⟨R_G, "keepPacket", "(I)V"⟩
abbrev b_G_placeOf : ByteArray := prog_7_method_6_code
def y_G_placeOf : MethodName := ⟨R_G, "placeOf", "(I)I"⟩
abbrev b_G_keepPlace : ByteArray := prog_7_method_7_code
def y_G_keepPlace : MethodName := ⟨R_G, "keepPlace", "(II)V"⟩
abbrev b_T_init : ByteArray := prog_8_method_1_code
def y_T_init : MethodName := ⟨R_T, "<init>", "()V"⟩
abbrev b_T_byteAt : ByteArray := prog_8_method_2_code
def y_T_byteAt : MethodName := ⟨R_T, "byteAt", "(I)I"⟩
abbrev b_T_numberBytesAt : ByteArray := prog_8_method_3_code
def y_T_numberBytesAt : MethodName := ⟨R_T, "numberBytesAt", "(I)I"⟩
abbrev b_T_numberAt : ByteArray := prog_8_method_4_code
def y_T_numberAt : MethodName := ⟨R_T, "numberAt", "(II)J"⟩
abbrev b_T_wordAt : ByteArray := prog_8_method_5_code
def y_T_wordAt : MethodName := ⟨R_T, "wordAt", "(II)J"⟩
abbrev b_T_startWriting : ByteArray := prog_8_method_6_code
def y_T_startWriting : MethodName := ⟨R_T, "startWriting", "()V"⟩
abbrev b_T_endWriting : ByteArray := prog_8_method_7_code
def y_T_endWriting : MethodName := ⟨R_T, "endWriting", "()Z"⟩
abbrev b_T_writeByte : ByteArray := prog_8_method_8_code
def y_T_writeByte : MethodName := ⟨R_T, "writeByte", "(I)V"⟩
abbrev b_T_writeWord : ByteArray := prog_8_method_9_code
def y_T_writeWord : MethodName := ⟨R_T, "writeWord", "(JI)V"⟩
abbrev b_T_writeNumber : ByteArray := prog_8_method_10_code
def y_T_writeNumber : MethodName := ⟨R_T, "writeNumber", "(JI)V"⟩
abbrev b_T_writeBytes : ByteArray := prog_8_method_11_code
def y_T_writeBytes : MethodName := ⟨R_T, "writeBytes", "([BII)V"⟩
abbrev b_L_feed : ByteArray := method_3_code
def y_L_feed : MethodName := ⟨R_L, "feed", "(LWireCodec;JI[J)I"⟩
abbrev b_L_number : ByteArray := method_4_code
def y_L_number : MethodName := ⟨R_L, "number", "(LWireCodec;JI[J)I"⟩
abbrev b_L_at : ByteArray := method_5_code
def y_L_at : MethodName := ⟨R_L, "at", "(LWireCodec;I[J)I"⟩
abbrev b_L_read : ByteArray := method_6_code
def y_L_read : MethodName := ⟨R_L, "read", "(LWireCodec;I[J)I"⟩
abbrev b_L_frames : ByteArray := method_7_code
def y_L_frames : MethodName := ⟨R_L, "frames", "(LWireCodec;II[J)I"⟩
abbrev b_L_frame : ByteArray := method_8_code
def y_L_frame : MethodName := ⟨R_L, "frame", "(LWireCodec;II[J)I"⟩
abbrev b_L_data : ByteArray := method_9_code
def y_L_data : MethodName := ⟨R_L, "data", "(LWireCodec;IIZ[J)I"⟩
abbrev b_L_range : ByteArray := method_10_code
def y_L_range : MethodName := ⟨R_L, "range", "(LWireCodec;IIZ[J)I"⟩
abbrev b_L_set : ByteArray := method_11_code
def y_L_set : MethodName := ⟨R_L, "set", "(LWireCodec;IJ)I"⟩
abbrev b_L_add : ByteArray := method_12_code
def y_L_add : MethodName := ⟨R_L, "add", "(LWireCodec;JI[J)I"⟩
abbrev b_L_span : ByteArray := method_13_code
def y_L_span : MethodName := ⟨R_L, "span", "(LWireCodec;JJ)I"⟩
abbrev b_L_put : ByteArray := method_14_code
def y_L_put : MethodName := ⟨R_L, "put", "(LWireCodec;I[J)I"⟩
abbrev b_L_head : ByteArray := method_15_code
def y_L_head : MethodName := ⟨R_L, "head", "(LWireCodec;II[J)I"⟩
abbrev b_L_datagram : ByteArray := method_16_code
def y_L_datagram : MethodName := ⟨R_L, "datagram", "(LWireCodec;II[J)I"⟩
abbrev b_L_packet : ByteArray := method_17_code
def y_L_packet : MethodName := ⟨R_L, "packet", "(LWireCodec;II[J)I"⟩
abbrev b_L_lead : ByteArray := method_18_code
def y_L_lead : MethodName := ⟨R_L, "lead", "(LWireCodec;IIIII[J)I"⟩
abbrev b_L_cut : ByteArray := method_19_code
def y_L_cut : MethodName := ⟨R_L, "cut", "(LWireCodec;JJ[J)I"⟩
abbrev b_L_grow : ByteArray := method_20_code
def y_L_grow : MethodName := ⟨R_L, "grow", "(LWireCodec;JJI[J)I"⟩
abbrev b_L_parameters : ByteArray := method_21_code
def y_L_parameters : MethodName := ⟨R_L, "parameters", "(LWireCodec;IZ[J)I"⟩
abbrev b_L_parameter : ByteArray := method_22_code
def y_L_parameter : MethodName := ⟨R_L, "parameter", "(LWireCodec;I[J)I"⟩
abbrev b_In_bitCount : ByteArray := prog_15_method_49_code
def y_In_bitCount : MethodName := ⟨R_In, "bitCount", "(I)I"⟩
abbrev b_Ma_abs : ByteArray := prog_16_method_61_code
def y_Ma_abs : MethodName := ⟨R_Ma, "abs", "(J)J"⟩
abbrev b_Ma_min : ByteArray := prog_16_method_69_code
def y_Ma_min : MethodName := ⟨R_Ma, "min", "(II)I"⟩
abbrev b_Ar_copyOf_aBI : ByteArray := prog_21_method_121_code
def y_Ar_copyOf_aBI : MethodName := ⟨R_Ar, "copyOf", "([BI)[B"⟩
abbrev b_Ar_copyOf_aII : ByteArray := prog_21_method_123_code
def y_Ar_copyOf_aII : MethodName := ⟨R_Ar, "copyOf", "([II)[I"⟩
abbrev b_Ar_copyOf_aJI : ByteArray := prog_21_method_124_code
def y_Ar_copyOf_aJI : MethodName := ⟨R_Ar, "copyOf", "([JI)[J"⟩
abbrev b_Ar_fill_aII : ByteArray := prog_21_method_103_code
def y_Ar_fill_aII : MethodName := ⟨R_Ar, "fill", "([II)V"⟩
abbrev b_Ar_fill_aJJ : ByteArray := prog_21_method_101_code
def y_Ar_fill_aJJ : MethodName := ⟨R_Ar, "fill", "([JJ)V"⟩
abbrev zcl : List vw_C := [(R_W, F_W, 7), (R_T, F_T, 3), (R_R, F_R, 4), (R_G, F_G, 7), (R_F, F_F, 7), (R_H, F_H, 1), (R_D, F_D, 6), (R_P, F_P, 2), (R_M, F_M, 26)]
def zSt : List (String × Nat × String) := [("WireCodec", 62, "n is not 1 .. 8"), ("WireCodec", 307, "the tape has no room"), ("WireCodec", 90, "no number of so many bytes"), ("WireCodec", 309, "the tape has no such byte"), ("WireCodec", 311, "from is not 0 .. size"), ("WireCodec", 130, "level is not 0 .. 2"), ("WireCodec", 315, "no such frame"), ("WireCodec", 166, "a frame has no such part"), ("WireCodec", 176, "the frame has no such byte"), ("WireCodec", 184, "the frame has no such range"), ("WireCodec", 203, "a draft has no such field"), ("WireCodec", 209, "the draft's data is full"), ("WireCodec", 218, "no range below the last one"), ("WireCodec", 223, "the draft has all its ranges"), ("WireCodec", 232, "the draft is no such frame"), ("WireCodec", 313, "names is not 0 .. 20"), ("WireCodec", 255, "no such packet, or no such part of it"), ("WireCodec", 267, "the draft is no such header"), ("WireCodec", 276, "no packet's number above the acknowledged one"), ("WireCodec", 278, "no cut packet's number"), ("WireCodec", 298, "id is not 0 .. 16")]
def ztb : List Cond := lw_tbl.filter goodWord
theorem zmem {w : Cond} (i : Nat) (h : lw_tbl[i]? = some w) (hg : goodWord w = true) : w ∈ ztb := List.mem_filter.mpr ⟨List.mem_of_getElem? h, hg⟩
theorem ztbl_ok (w : Cond) (h : w ∈ ztb) : (w.onTables && w.keeps) = true ∨ ∃ ty, w = .arrayClass ty := good_of_word (List.mem_filter.mp h).2
theorem zi_W : ∀ w ∈ u_ws R_W F_W 7, w ∈ ztb := by
  intro w hw
  obtain ⟨k, hk, rfl⟩ := List.mem_map.mp hw
  have hk := List.mem_range.mp hk
  rcases (show k = 0 ∨ k = 1 ∨ k = 2 ∨ k = 3 ∨ k = 4 ∨ k = 5 ∨ k = 6 by omega) with rfl | rfl | rfl | rfl | rfl | rfl | rfl
  · exact zmem 284 (by decide +kernel) (by decide +kernel)
  · exact zmem 286 (by decide +kernel) (by decide +kernel)
  · exact zmem 288 (by decide +kernel) (by decide +kernel)
  · exact zmem 290 (by decide +kernel) (by decide +kernel)
  · exact zmem 292 (by decide +kernel) (by decide +kernel)
  · exact zmem 294 (by decide +kernel) (by decide +kernel)
  · exact zmem 296 (by decide +kernel) (by decide +kernel)
theorem zi_T : ∀ w ∈ u_ws R_T F_T 3, w ∈ ztb := by
  intro w hw
  obtain ⟨k, hk, rfl⟩ := List.mem_map.mp hw
  have hk := List.mem_range.mp hk
  rcases (show k = 0 ∨ k = 1 ∨ k = 2 by omega) with rfl | rfl | rfl
  · exact zmem 99 (by decide +kernel) (by decide +kernel)
  · exact zmem 101 (by decide +kernel) (by decide +kernel)
  · exact zmem 103 (by decide +kernel) (by decide +kernel)
theorem zi_R : ∀ w ∈ u_ws R_R F_R 4, w ∈ ztb := by
  intro w hw
  obtain ⟨k, hk, rfl⟩ := List.mem_map.mp hw
  have hk := List.mem_range.mp hk
  rcases (show k = 0 ∨ k = 1 ∨ k = 2 ∨ k = 3 by omega) with rfl | rfl | rfl | rfl
  · exact zmem 125 (by decide +kernel) (by decide +kernel)
  · exact zmem 127 (by decide +kernel) (by decide +kernel)
  · exact zmem 129 (by decide +kernel) (by decide +kernel)
  · exact zmem 131 (by decide +kernel) (by decide +kernel)
theorem zi_G : ∀ w ∈ u_ws R_G F_G 7, w ∈ ztb := by
  intro w hw
  obtain ⟨k, hk, rfl⟩ := List.mem_map.mp hw
  have hk := List.mem_range.mp hk
  rcases (show k = 0 ∨ k = 1 ∨ k = 2 ∨ k = 3 ∨ k = 4 ∨ k = 5 ∨ k = 6 by omega) with rfl | rfl | rfl | rfl | rfl | rfl | rfl
  · exact zmem 153 (by decide +kernel) (by decide +kernel)
  · exact zmem 155 (by decide +kernel) (by decide +kernel)
  · exact zmem 157 (by decide +kernel) (by decide +kernel)
  · exact zmem 159 (by decide +kernel) (by decide +kernel)
  · exact zmem 161 (by decide +kernel) (by decide +kernel)
  · exact zmem 163 (by decide +kernel) (by decide +kernel)
  · exact zmem 165 (by decide +kernel) (by decide +kernel)
theorem zi_F : ∀ w ∈ u_ws R_F F_F 7, w ∈ ztb := by
  intro w hw
  obtain ⟨k, hk, rfl⟩ := List.mem_map.mp hw
  have hk := List.mem_range.mp hk
  rcases (show k = 0 ∨ k = 1 ∨ k = 2 ∨ k = 3 ∨ k = 4 ∨ k = 5 ∨ k = 6 by omega) with rfl | rfl | rfl | rfl | rfl | rfl | rfl
  · exact zmem 189 (by decide +kernel) (by decide +kernel)
  · exact zmem 191 (by decide +kernel) (by decide +kernel)
  · exact zmem 193 (by decide +kernel) (by decide +kernel)
  · exact zmem 195 (by decide +kernel) (by decide +kernel)
  · exact zmem 197 (by decide +kernel) (by decide +kernel)
  · exact zmem 199 (by decide +kernel) (by decide +kernel)
  · exact zmem 201 (by decide +kernel) (by decide +kernel)
theorem zi_H : ∀ w ∈ u_ws R_H F_H 1, w ∈ ztb := by
  intro w hw
  obtain ⟨k, hk, rfl⟩ := List.mem_map.mp hw
  have hk := List.mem_range.mp hk
  rcases (show k = 0 by omega) with rfl
  · exact zmem 213 (by decide +kernel) (by decide +kernel)
theorem zi_D : ∀ w ∈ u_ws R_D F_D 6, w ∈ ztb := by
  intro w hw
  obtain ⟨k, hk, rfl⟩ := List.mem_map.mp hw
  have hk := List.mem_range.mp hk
  rcases (show k = 0 ∨ k = 1 ∨ k = 2 ∨ k = 3 ∨ k = 4 ∨ k = 5 by omega) with rfl | rfl | rfl | rfl | rfl | rfl
  · exact zmem 231 (by decide +kernel) (by decide +kernel)
  · exact zmem 233 (by decide +kernel) (by decide +kernel)
  · exact zmem 235 (by decide +kernel) (by decide +kernel)
  · exact zmem 237 (by decide +kernel) (by decide +kernel)
  · exact zmem 239 (by decide +kernel) (by decide +kernel)
  · exact zmem 241 (by decide +kernel) (by decide +kernel)
theorem zi_P : ∀ w ∈ u_ws R_P F_P 2, w ∈ ztb := by
  intro w hw
  obtain ⟨k, hk, rfl⟩ := List.mem_map.mp hw
  have hk := List.mem_range.mp hk
  rcases (show k = 0 ∨ k = 1 by omega) with rfl | rfl
  · exact zmem 272 (by decide +kernel) (by decide +kernel)
  · exact zmem 274 (by decide +kernel) (by decide +kernel)
theorem zi_M : ∀ w ∈ u_ws R_M F_M 26, w ∈ ztb := by
  intro w hw
  obtain ⟨k, hk, rfl⟩ := List.mem_map.mp hw
  have hk := List.mem_range.mp hk
  rcases (show k = 0 ∨ k = 1 ∨ k = 2 ∨ k = 3 ∨ k = 4 ∨ k = 5 ∨ k = 6 ∨ k = 7 ∨ k = 8 ∨ k = 9 ∨ k = 10 ∨ k = 11 ∨ k = 12 ∨ k = 13 ∨ k = 14 ∨ k = 15 ∨ k = 16 ∨ k = 17 ∨ k = 18 ∨ k = 19 ∨ k = 20 ∨ k = 21 ∨ k = 22 ∨ k = 23 ∨ k = 24 ∨ k = 25 by omega) with rfl | rfl | rfl | rfl | rfl | rfl | rfl | rfl | rfl | rfl | rfl | rfl | rfl | rfl | rfl | rfl | rfl | rfl | rfl | rfl | rfl | rfl | rfl | rfl | rfl | rfl
  · exact zmem 968 (by decide +kernel) (by decide +kernel)
  · exact zmem 970 (by decide +kernel) (by decide +kernel)
  · exact zmem 972 (by decide +kernel) (by decide +kernel)
  · exact zmem 974 (by decide +kernel) (by decide +kernel)
  · exact zmem 976 (by decide +kernel) (by decide +kernel)
  · exact zmem 978 (by decide +kernel) (by decide +kernel)
  · exact zmem 980 (by decide +kernel) (by decide +kernel)
  · exact zmem 982 (by decide +kernel) (by decide +kernel)
  · exact zmem 984 (by decide +kernel) (by decide +kernel)
  · exact zmem 986 (by decide +kernel) (by decide +kernel)
  · exact zmem 988 (by decide +kernel) (by decide +kernel)
  · exact zmem 990 (by decide +kernel) (by decide +kernel)
  · exact zmem 992 (by decide +kernel) (by decide +kernel)
  · exact zmem 994 (by decide +kernel) (by decide +kernel)
  · exact zmem 996 (by decide +kernel) (by decide +kernel)
  · exact zmem 998 (by decide +kernel) (by decide +kernel)
  · exact zmem 1000 (by decide +kernel) (by decide +kernel)
  · exact zmem 1002 (by decide +kernel) (by decide +kernel)
  · exact zmem 1004 (by decide +kernel) (by decide +kernel)
  · exact zmem 1006 (by decide +kernel) (by decide +kernel)
  · exact zmem 1008 (by decide +kernel) (by decide +kernel)
  · exact zmem 1010 (by decide +kernel) (by decide +kernel)
  · exact zmem 1012 (by decide +kernel) (by decide +kernel)
  · exact zmem 1014 (by decide +kernel) (by decide +kernel)
  · exact zmem 1016 (by decide +kernel) (by decide +kernel)
  · exact zmem 1018 (by decide +kernel) (by decide +kernel)
abbrev zwW (o o_tape o_reader o_reading o_loadedFrame o_loadedHeader o_drafted o_told : Nat) : va_W := [(o, .inr (0, [.ref o_tape, .ref o_reader, .ref o_reading, .ref o_loadedFrame, .ref o_loadedHeader, .ref o_drafted, .ref o_told]))]
abbrev zT : Type := (Nat → Int32) × Nat × Int32 × Int32
abbrev zT_bytes (x : zT) : (Nat → Int32) := x.1
abbrev zT_bytesN (x : zT) : Nat := x.2.1
abbrev zT_cursor (x : zT) : Int32 := x.2.2.1
abbrev zT_length (x : zT) : Int32 := x.2.2.2
abbrev zT_bytes' (x : zT) (v : (Nat → Int32)) : zT := (v, x.2.1, x.2.2.1, x.2.2.2)
abbrev zT_bytesN' (x : zT) (v : Nat) : zT := (x.1, v, x.2.2.1, x.2.2.2)
abbrev zT_cursor' (x : zT) (v : Int32) : zT := (x.1, x.2.1, v, x.2.2.2)
abbrev zT_length' (x : zT) (v : Int32) : zT := (x.1, x.2.1, x.2.2.1, v)
abbrev zwT (o o_bytes : Nat) (cB cI cL : ClassId) (x : zT) : va_W := [(o, .inr (1, [.ref o_bytes, .int (zT_cursor x), .int (zT_length x)])), (o_bytes, .inl (cB, zT_bytesN x, .inl (zT_bytes x)))]
abbrev zR : Type := Int32 × Int32 × Int32
abbrev zR_place (x : zR) : Int32 := x.1
abbrev zR_limit (x : zR) : Int32 := x.2.1
abbrev zR_over (x : zR) : Int32 := x.2.2
abbrev zR_place' (x : zR) (v : Int32) : zR := (v, x.2.1, x.2.2)
abbrev zR_limit' (x : zR) (v : Int32) : zR := (x.1, v, x.2.2)
abbrev zR_over' (x : zR) (v : Int32) : zR := (x.1, x.2.1, v)
abbrev zwR (o o_tape : Nat) (cB cI cL : ClassId) (x : zR) : va_W := [(o, .inr (2, [.ref o_tape, .int (zR_place x), .int (zR_limit x), .int (zR_over x)]))]
abbrev zG : Type := (Nat → Int32) × Nat × Int32 × Int32 × Int32 × Int32 × Int32 × Int32
abbrev zG_places (x : zG) : (Nat → Int32) := x.1
abbrev zG_placesN (x : zG) : Nat := x.2.1
abbrev zG_frameCount (x : zG) : Int32 := x.2.2.1
abbrev zG_packetCount (x : zG) : Int32 := x.2.2.2.1
abbrev zG_limit (x : zG) : Int32 := x.2.2.2.2.1
abbrev zG_names (x : zG) : Int32 := x.2.2.2.2.2.1
abbrev zG_wrong (x : zG) : Int32 := x.2.2.2.2.2.2.1
abbrev zG_wrongPlace (x : zG) : Int32 := x.2.2.2.2.2.2.2
abbrev zG_places' (x : zG) (v : (Nat → Int32)) : zG := (v, x.2.1, x.2.2.1, x.2.2.2.1, x.2.2.2.2.1, x.2.2.2.2.2.1, x.2.2.2.2.2.2.1, x.2.2.2.2.2.2.2)
abbrev zG_placesN' (x : zG) (v : Nat) : zG := (x.1, v, x.2.2.1, x.2.2.2.1, x.2.2.2.2.1, x.2.2.2.2.2.1, x.2.2.2.2.2.2.1, x.2.2.2.2.2.2.2)
abbrev zG_frameCount' (x : zG) (v : Int32) : zG := (x.1, x.2.1, v, x.2.2.2.1, x.2.2.2.2.1, x.2.2.2.2.2.1, x.2.2.2.2.2.2.1, x.2.2.2.2.2.2.2)
abbrev zG_packetCount' (x : zG) (v : Int32) : zG := (x.1, x.2.1, x.2.2.1, v, x.2.2.2.2.1, x.2.2.2.2.2.1, x.2.2.2.2.2.2.1, x.2.2.2.2.2.2.2)
abbrev zG_limit' (x : zG) (v : Int32) : zG := (x.1, x.2.1, x.2.2.1, x.2.2.2.1, v, x.2.2.2.2.2.1, x.2.2.2.2.2.2.1, x.2.2.2.2.2.2.2)
abbrev zG_names' (x : zG) (v : Int32) : zG := (x.1, x.2.1, x.2.2.1, x.2.2.2.1, x.2.2.2.2.1, v, x.2.2.2.2.2.2.1, x.2.2.2.2.2.2.2)
abbrev zG_wrong' (x : zG) (v : Int32) : zG := (x.1, x.2.1, x.2.2.1, x.2.2.2.1, x.2.2.2.2.1, x.2.2.2.2.2.1, v, x.2.2.2.2.2.2.2)
abbrev zG_wrongPlace' (x : zG) (v : Int32) : zG := (x.1, x.2.1, x.2.2.1, x.2.2.2.1, x.2.2.2.2.1, x.2.2.2.2.2.1, x.2.2.2.2.2.2.1, v)
abbrev zwG (o o_places : Nat) (cB cI cL : ClassId) (x : zG) : va_W := [(o, .inr (3, [.ref o_places, .int (zG_frameCount x), .int (zG_packetCount x), .int (zG_limit x), .int (zG_names x), .int (zG_wrong x), .int (zG_wrongPlace x)])), (o_places, .inl (cI, zG_placesN x, .inl (zG_places x)))]
abbrev zF : Type := (Nat → Int64) × Int32 × Int32 × Int32 × Int32 × Int64 × Int64
abbrev zF_parts (x : zF) : (Nat → Int64) := x.1
abbrev zF_dataPlace (x : zF) : Int32 := x.2.1
abbrev zF_secretPlace (x : zF) : Int32 := x.2.2.1
abbrev zF_secretBytes (x : zF) : Int32 := x.2.2.2.1
abbrev zF_rangesPlace (x : zF) : Int32 := x.2.2.2.2.1
abbrev zF_low (x : zF) : Int64 := x.2.2.2.2.2.1
abbrev zF_high (x : zF) : Int64 := x.2.2.2.2.2.2
abbrev zF_parts' (x : zF) (v : (Nat → Int64)) : zF := (v, x.2.1, x.2.2.1, x.2.2.2.1, x.2.2.2.2.1, x.2.2.2.2.2.1, x.2.2.2.2.2.2)
abbrev zF_dataPlace' (x : zF) (v : Int32) : zF := (x.1, v, x.2.2.1, x.2.2.2.1, x.2.2.2.2.1, x.2.2.2.2.2.1, x.2.2.2.2.2.2)
abbrev zF_secretPlace' (x : zF) (v : Int32) : zF := (x.1, x.2.1, v, x.2.2.2.1, x.2.2.2.2.1, x.2.2.2.2.2.1, x.2.2.2.2.2.2)
abbrev zF_secretBytes' (x : zF) (v : Int32) : zF := (x.1, x.2.1, x.2.2.1, v, x.2.2.2.2.1, x.2.2.2.2.2.1, x.2.2.2.2.2.2)
abbrev zF_rangesPlace' (x : zF) (v : Int32) : zF := (x.1, x.2.1, x.2.2.1, x.2.2.2.1, v, x.2.2.2.2.2.1, x.2.2.2.2.2.2)
abbrev zF_low' (x : zF) (v : Int64) : zF := (x.1, x.2.1, x.2.2.1, x.2.2.2.1, x.2.2.2.2.1, v, x.2.2.2.2.2.2)
abbrev zF_high' (x : zF) (v : Int64) : zF := (x.1, x.2.1, x.2.2.1, x.2.2.2.1, x.2.2.2.2.1, x.2.2.2.2.2.1, v)
abbrev zwF (o o_parts : Nat) (cB cI cL : ClassId) (x : zF) : va_W := [(o, .inr (4, [.ref o_parts, .int (zF_dataPlace x), .int (zF_secretPlace x), .int (zF_secretBytes x), .int (zF_rangesPlace x), .long (zF_low x), .long (zF_high x)])), (o_parts, .inl (cL, 12, .inr (.inl (zF_parts x))))]
abbrev zH : Type := (Nat → Int32)
abbrev zH_parts (x : zH) : (Nat → Int32) := x
abbrev zH_parts' (x : zH) (v : (Nat → Int32)) : zH := (v)
abbrev zwH (o o_parts : Nat) (cB cI cL : ClassId) (x : zH) : va_W := [(o, .inr (5, [.ref o_parts])), (o_parts, .inl (cI, 12, .inl (zH_parts x)))]
abbrev zD : Type := (Nat → Int64) × (Nat → Int32) × (Nat → Int64) × (Nat → Int64) × Int32 × Int32
abbrev zD_parts (x : zD) : (Nat → Int64) := x.1
abbrev zD_bytes (x : zD) : (Nat → Int32) := x.2.1
abbrev zD_lows (x : zD) : (Nat → Int64) := x.2.2.1
abbrev zD_highs (x : zD) : (Nat → Int64) := x.2.2.2.1
abbrev zD_length (x : zD) : Int32 := x.2.2.2.2.1
abbrev zD_ranges (x : zD) : Int32 := x.2.2.2.2.2
abbrev zD_parts' (x : zD) (v : (Nat → Int64)) : zD := (v, x.2.1, x.2.2.1, x.2.2.2.1, x.2.2.2.2.1, x.2.2.2.2.2)
abbrev zD_bytes' (x : zD) (v : (Nat → Int32)) : zD := (x.1, v, x.2.2.1, x.2.2.2.1, x.2.2.2.2.1, x.2.2.2.2.2)
abbrev zD_lows' (x : zD) (v : (Nat → Int64)) : zD := (x.1, x.2.1, v, x.2.2.2.1, x.2.2.2.2.1, x.2.2.2.2.2)
abbrev zD_highs' (x : zD) (v : (Nat → Int64)) : zD := (x.1, x.2.1, x.2.2.1, v, x.2.2.2.2.1, x.2.2.2.2.2)
abbrev zD_length' (x : zD) (v : Int32) : zD := (x.1, x.2.1, x.2.2.1, x.2.2.2.1, v, x.2.2.2.2.2)
abbrev zD_ranges' (x : zD) (v : Int32) : zD := (x.1, x.2.1, x.2.2.1, x.2.2.2.1, x.2.2.2.2.1, v)
abbrev zwD (o o_parts o_bytes o_lows o_highs : Nat) (cB cI cL : ClassId) (x : zD) : va_W := [(o, .inr (6, [.ref o_parts, .ref o_bytes, .ref o_lows, .ref o_highs, .int (zD_length x), .int (zD_ranges x)])), (o_parts, .inl (cL, 12, .inr (.inl (zD_parts x)))), (o_bytes, .inl (cB, 2000, .inl (zD_bytes x))), (o_lows, .inl (cL, 500, .inr (.inl (zD_lows x)))), (o_highs, .inl (cL, 500, .inr (.inl (zD_highs x))))]
abbrev zP : Type := (Nat → Int64) × Int32
abbrev zP_values (x : zP) : (Nat → Int64) := x.1
abbrev zP_seen (x : zP) : Int32 := x.2
abbrev zP_values' (x : zP) (v : (Nat → Int64)) : zP := (v, x.2)
abbrev zP_seen' (x : zP) (v : Int32) : zP := (x.1, v)
abbrev zwP (o o_values : Nat) (cB cI cL : ClassId) (x : zP) : va_W := [(o, .inr (7, [.ref o_values, .int (zP_seen x)])), (o_values, .inl (cL, 17, .inr (.inl (zP_values x))))]
abbrev zM : Type := Int32 × (Nat → Int32) × Int32 × Int32 × Int32 × Int32 × (Nat → Int32) × Int32 × (Nat → Int64) × Int32 × Int32 × Int32 × Int32 × Int32 × Int32 × Int32 × Int32 × (Nat → Int64) × (Nat → Int32) × Int32 × (Nat → Int64) × (Nat → Int64) × Int32 × Int32 × (Nat → Int32) × (Nat → Int64)
abbrev zM_thrown (x : zM) : Int32 := x.1
abbrev zM_tape (x : zM) : (Nat → Int32) := x.2.1
abbrev zM_size (x : zM) : Int32 := x.2.2.1
abbrev zM_fault (x : zM) : Int32 := x.2.2.2.1
abbrev zM_faultAt (x : zM) : Int32 := x.2.2.2.2.1
abbrev zM_frames (x : zM) : Int32 := x.2.2.2.2.2.1
abbrev zM_frameAt (x : zM) : (Nat → Int32) := x.2.2.2.2.2.2.1
abbrev zM_framesEnd (x : zM) : Int32 := x.2.2.2.2.2.2.2.1
abbrev zM_field (x : zM) : (Nat → Int64) := x.2.2.2.2.2.2.2.2.1
abbrev zM_dataAt (x : zM) : Int32 := x.2.2.2.2.2.2.2.2.2.1
abbrev zM_dataSize (x : zM) : Int32 := x.2.2.2.2.2.2.2.2.2.2.1
abbrev zM_secretAt (x : zM) : Int32 := x.2.2.2.2.2.2.2.2.2.2.2.1
abbrev zM_ranges (x : zM) : Int32 := x.2.2.2.2.2.2.2.2.2.2.2.2.1
abbrev zM_rangesAt (x : zM) : Int32 := x.2.2.2.2.2.2.2.2.2.2.2.2.2.1
abbrev zM_at (x : zM) : Int32 := x.2.2.2.2.2.2.2.2.2.2.2.2.2.2.1
abbrev zM_over (x : zM) : Int32 := x.2.2.2.2.2.2.2.2.2.2.2.2.2.2.2.1
abbrev zM_end (x : zM) : Int32 := x.2.2.2.2.2.2.2.2.2.2.2.2.2.2.2.2.1
abbrev zM_draft (x : zM) : (Nat → Int64) := x.2.2.2.2.2.2.2.2.2.2.2.2.2.2.2.2.2.1
abbrev zM_given (x : zM) : (Nat → Int32) := x.2.2.2.2.2.2.2.2.2.2.2.2.2.2.2.2.2.2.1
abbrev zM_gives (x : zM) : Int32 := x.2.2.2.2.2.2.2.2.2.2.2.2.2.2.2.2.2.2.2.1
abbrev zM_low (x : zM) : (Nat → Int64) := x.2.2.2.2.2.2.2.2.2.2.2.2.2.2.2.2.2.2.2.2.1
abbrev zM_high (x : zM) : (Nat → Int64) := x.2.2.2.2.2.2.2.2.2.2.2.2.2.2.2.2.2.2.2.2.2.1
abbrev zM_spans (x : zM) : Int32 := x.2.2.2.2.2.2.2.2.2.2.2.2.2.2.2.2.2.2.2.2.2.2.1
abbrev zM_packets (x : zM) : Int32 := x.2.2.2.2.2.2.2.2.2.2.2.2.2.2.2.2.2.2.2.2.2.2.2.1
abbrev zM_packet (x : zM) : (Nat → Int32) := x.2.2.2.2.2.2.2.2.2.2.2.2.2.2.2.2.2.2.2.2.2.2.2.2.1
abbrev zM_known (x : zM) : (Nat → Int64) := x.2.2.2.2.2.2.2.2.2.2.2.2.2.2.2.2.2.2.2.2.2.2.2.2.2
abbrev zM_thrown' (x : zM) (v : Int32) : zM := (v, x.2.1, x.2.2.1, x.2.2.2.1, x.2.2.2.2.1, x.2.2.2.2.2.1, x.2.2.2.2.2.2.1, x.2.2.2.2.2.2.2.1, x.2.2.2.2.2.2.2.2.1, x.2.2.2.2.2.2.2.2.2.1, x.2.2.2.2.2.2.2.2.2.2.1, x.2.2.2.2.2.2.2.2.2.2.2.1, x.2.2.2.2.2.2.2.2.2.2.2.2.1, x.2.2.2.2.2.2.2.2.2.2.2.2.2.1, x.2.2.2.2.2.2.2.2.2.2.2.2.2.2.1, x.2.2.2.2.2.2.2.2.2.2.2.2.2.2.2.1, x.2.2.2.2.2.2.2.2.2.2.2.2.2.2.2.2.1, x.2.2.2.2.2.2.2.2.2.2.2.2.2.2.2.2.2.1, x.2.2.2.2.2.2.2.2.2.2.2.2.2.2.2.2.2.2.1, x.2.2.2.2.2.2.2.2.2.2.2.2.2.2.2.2.2.2.2.1, x.2.2.2.2.2.2.2.2.2.2.2.2.2.2.2.2.2.2.2.2.1, x.2.2.2.2.2.2.2.2.2.2.2.2.2.2.2.2.2.2.2.2.2.1, x.2.2.2.2.2.2.2.2.2.2.2.2.2.2.2.2.2.2.2.2.2.2.1, x.2.2.2.2.2.2.2.2.2.2.2.2.2.2.2.2.2.2.2.2.2.2.2.1, x.2.2.2.2.2.2.2.2.2.2.2.2.2.2.2.2.2.2.2.2.2.2.2.2.1, x.2.2.2.2.2.2.2.2.2.2.2.2.2.2.2.2.2.2.2.2.2.2.2.2.2)
abbrev zM_tape' (x : zM) (v : (Nat → Int32)) : zM := (x.1, v, x.2.2.1, x.2.2.2.1, x.2.2.2.2.1, x.2.2.2.2.2.1, x.2.2.2.2.2.2.1, x.2.2.2.2.2.2.2.1, x.2.2.2.2.2.2.2.2.1, x.2.2.2.2.2.2.2.2.2.1, x.2.2.2.2.2.2.2.2.2.2.1, x.2.2.2.2.2.2.2.2.2.2.2.1, x.2.2.2.2.2.2.2.2.2.2.2.2.1, x.2.2.2.2.2.2.2.2.2.2.2.2.2.1, x.2.2.2.2.2.2.2.2.2.2.2.2.2.2.1, x.2.2.2.2.2.2.2.2.2.2.2.2.2.2.2.1, x.2.2.2.2.2.2.2.2.2.2.2.2.2.2.2.2.1, x.2.2.2.2.2.2.2.2.2.2.2.2.2.2.2.2.2.1, x.2.2.2.2.2.2.2.2.2.2.2.2.2.2.2.2.2.2.1, x.2.2.2.2.2.2.2.2.2.2.2.2.2.2.2.2.2.2.2.1, x.2.2.2.2.2.2.2.2.2.2.2.2.2.2.2.2.2.2.2.2.1, x.2.2.2.2.2.2.2.2.2.2.2.2.2.2.2.2.2.2.2.2.2.1, x.2.2.2.2.2.2.2.2.2.2.2.2.2.2.2.2.2.2.2.2.2.2.1, x.2.2.2.2.2.2.2.2.2.2.2.2.2.2.2.2.2.2.2.2.2.2.2.1, x.2.2.2.2.2.2.2.2.2.2.2.2.2.2.2.2.2.2.2.2.2.2.2.2.1, x.2.2.2.2.2.2.2.2.2.2.2.2.2.2.2.2.2.2.2.2.2.2.2.2.2)
abbrev zM_size' (x : zM) (v : Int32) : zM := (x.1, x.2.1, v, x.2.2.2.1, x.2.2.2.2.1, x.2.2.2.2.2.1, x.2.2.2.2.2.2.1, x.2.2.2.2.2.2.2.1, x.2.2.2.2.2.2.2.2.1, x.2.2.2.2.2.2.2.2.2.1, x.2.2.2.2.2.2.2.2.2.2.1, x.2.2.2.2.2.2.2.2.2.2.2.1, x.2.2.2.2.2.2.2.2.2.2.2.2.1, x.2.2.2.2.2.2.2.2.2.2.2.2.2.1, x.2.2.2.2.2.2.2.2.2.2.2.2.2.2.1, x.2.2.2.2.2.2.2.2.2.2.2.2.2.2.2.1, x.2.2.2.2.2.2.2.2.2.2.2.2.2.2.2.2.1, x.2.2.2.2.2.2.2.2.2.2.2.2.2.2.2.2.2.1, x.2.2.2.2.2.2.2.2.2.2.2.2.2.2.2.2.2.2.1, x.2.2.2.2.2.2.2.2.2.2.2.2.2.2.2.2.2.2.2.1, x.2.2.2.2.2.2.2.2.2.2.2.2.2.2.2.2.2.2.2.2.1, x.2.2.2.2.2.2.2.2.2.2.2.2.2.2.2.2.2.2.2.2.2.1, x.2.2.2.2.2.2.2.2.2.2.2.2.2.2.2.2.2.2.2.2.2.2.1, x.2.2.2.2.2.2.2.2.2.2.2.2.2.2.2.2.2.2.2.2.2.2.2.1, x.2.2.2.2.2.2.2.2.2.2.2.2.2.2.2.2.2.2.2.2.2.2.2.2.1, x.2.2.2.2.2.2.2.2.2.2.2.2.2.2.2.2.2.2.2.2.2.2.2.2.2)
abbrev zM_fault' (x : zM) (v : Int32) : zM := (x.1, x.2.1, x.2.2.1, v, x.2.2.2.2.1, x.2.2.2.2.2.1, x.2.2.2.2.2.2.1, x.2.2.2.2.2.2.2.1, x.2.2.2.2.2.2.2.2.1, x.2.2.2.2.2.2.2.2.2.1, x.2.2.2.2.2.2.2.2.2.2.1, x.2.2.2.2.2.2.2.2.2.2.2.1, x.2.2.2.2.2.2.2.2.2.2.2.2.1, x.2.2.2.2.2.2.2.2.2.2.2.2.2.1, x.2.2.2.2.2.2.2.2.2.2.2.2.2.2.1, x.2.2.2.2.2.2.2.2.2.2.2.2.2.2.2.1, x.2.2.2.2.2.2.2.2.2.2.2.2.2.2.2.2.1, x.2.2.2.2.2.2.2.2.2.2.2.2.2.2.2.2.2.1, x.2.2.2.2.2.2.2.2.2.2.2.2.2.2.2.2.2.2.1, x.2.2.2.2.2.2.2.2.2.2.2.2.2.2.2.2.2.2.2.1, x.2.2.2.2.2.2.2.2.2.2.2.2.2.2.2.2.2.2.2.2.1, x.2.2.2.2.2.2.2.2.2.2.2.2.2.2.2.2.2.2.2.2.2.1, x.2.2.2.2.2.2.2.2.2.2.2.2.2.2.2.2.2.2.2.2.2.2.1, x.2.2.2.2.2.2.2.2.2.2.2.2.2.2.2.2.2.2.2.2.2.2.2.1, x.2.2.2.2.2.2.2.2.2.2.2.2.2.2.2.2.2.2.2.2.2.2.2.2.1, x.2.2.2.2.2.2.2.2.2.2.2.2.2.2.2.2.2.2.2.2.2.2.2.2.2)
abbrev zM_faultAt' (x : zM) (v : Int32) : zM := (x.1, x.2.1, x.2.2.1, x.2.2.2.1, v, x.2.2.2.2.2.1, x.2.2.2.2.2.2.1, x.2.2.2.2.2.2.2.1, x.2.2.2.2.2.2.2.2.1, x.2.2.2.2.2.2.2.2.2.1, x.2.2.2.2.2.2.2.2.2.2.1, x.2.2.2.2.2.2.2.2.2.2.2.1, x.2.2.2.2.2.2.2.2.2.2.2.2.1, x.2.2.2.2.2.2.2.2.2.2.2.2.2.1, x.2.2.2.2.2.2.2.2.2.2.2.2.2.2.1, x.2.2.2.2.2.2.2.2.2.2.2.2.2.2.2.1, x.2.2.2.2.2.2.2.2.2.2.2.2.2.2.2.2.1, x.2.2.2.2.2.2.2.2.2.2.2.2.2.2.2.2.2.1, x.2.2.2.2.2.2.2.2.2.2.2.2.2.2.2.2.2.2.1, x.2.2.2.2.2.2.2.2.2.2.2.2.2.2.2.2.2.2.2.1, x.2.2.2.2.2.2.2.2.2.2.2.2.2.2.2.2.2.2.2.2.1, x.2.2.2.2.2.2.2.2.2.2.2.2.2.2.2.2.2.2.2.2.2.1, x.2.2.2.2.2.2.2.2.2.2.2.2.2.2.2.2.2.2.2.2.2.2.1, x.2.2.2.2.2.2.2.2.2.2.2.2.2.2.2.2.2.2.2.2.2.2.2.1, x.2.2.2.2.2.2.2.2.2.2.2.2.2.2.2.2.2.2.2.2.2.2.2.2.1, x.2.2.2.2.2.2.2.2.2.2.2.2.2.2.2.2.2.2.2.2.2.2.2.2.2)
abbrev zM_frames' (x : zM) (v : Int32) : zM := (x.1, x.2.1, x.2.2.1, x.2.2.2.1, x.2.2.2.2.1, v, x.2.2.2.2.2.2.1, x.2.2.2.2.2.2.2.1, x.2.2.2.2.2.2.2.2.1, x.2.2.2.2.2.2.2.2.2.1, x.2.2.2.2.2.2.2.2.2.2.1, x.2.2.2.2.2.2.2.2.2.2.2.1, x.2.2.2.2.2.2.2.2.2.2.2.2.1, x.2.2.2.2.2.2.2.2.2.2.2.2.2.1, x.2.2.2.2.2.2.2.2.2.2.2.2.2.2.1, x.2.2.2.2.2.2.2.2.2.2.2.2.2.2.2.1, x.2.2.2.2.2.2.2.2.2.2.2.2.2.2.2.2.1, x.2.2.2.2.2.2.2.2.2.2.2.2.2.2.2.2.2.1, x.2.2.2.2.2.2.2.2.2.2.2.2.2.2.2.2.2.2.1, x.2.2.2.2.2.2.2.2.2.2.2.2.2.2.2.2.2.2.2.1, x.2.2.2.2.2.2.2.2.2.2.2.2.2.2.2.2.2.2.2.2.1, x.2.2.2.2.2.2.2.2.2.2.2.2.2.2.2.2.2.2.2.2.2.1, x.2.2.2.2.2.2.2.2.2.2.2.2.2.2.2.2.2.2.2.2.2.2.1, x.2.2.2.2.2.2.2.2.2.2.2.2.2.2.2.2.2.2.2.2.2.2.2.1, x.2.2.2.2.2.2.2.2.2.2.2.2.2.2.2.2.2.2.2.2.2.2.2.2.1, x.2.2.2.2.2.2.2.2.2.2.2.2.2.2.2.2.2.2.2.2.2.2.2.2.2)
abbrev zM_frameAt' (x : zM) (v : (Nat → Int32)) : zM := (x.1, x.2.1, x.2.2.1, x.2.2.2.1, x.2.2.2.2.1, x.2.2.2.2.2.1, v, x.2.2.2.2.2.2.2.1, x.2.2.2.2.2.2.2.2.1, x.2.2.2.2.2.2.2.2.2.1, x.2.2.2.2.2.2.2.2.2.2.1, x.2.2.2.2.2.2.2.2.2.2.2.1, x.2.2.2.2.2.2.2.2.2.2.2.2.1, x.2.2.2.2.2.2.2.2.2.2.2.2.2.1, x.2.2.2.2.2.2.2.2.2.2.2.2.2.2.1, x.2.2.2.2.2.2.2.2.2.2.2.2.2.2.2.1, x.2.2.2.2.2.2.2.2.2.2.2.2.2.2.2.2.1, x.2.2.2.2.2.2.2.2.2.2.2.2.2.2.2.2.2.1, x.2.2.2.2.2.2.2.2.2.2.2.2.2.2.2.2.2.2.1, x.2.2.2.2.2.2.2.2.2.2.2.2.2.2.2.2.2.2.2.1, x.2.2.2.2.2.2.2.2.2.2.2.2.2.2.2.2.2.2.2.2.1, x.2.2.2.2.2.2.2.2.2.2.2.2.2.2.2.2.2.2.2.2.2.1, x.2.2.2.2.2.2.2.2.2.2.2.2.2.2.2.2.2.2.2.2.2.2.1, x.2.2.2.2.2.2.2.2.2.2.2.2.2.2.2.2.2.2.2.2.2.2.2.1, x.2.2.2.2.2.2.2.2.2.2.2.2.2.2.2.2.2.2.2.2.2.2.2.2.1, x.2.2.2.2.2.2.2.2.2.2.2.2.2.2.2.2.2.2.2.2.2.2.2.2.2)
abbrev zM_framesEnd' (x : zM) (v : Int32) : zM := (x.1, x.2.1, x.2.2.1, x.2.2.2.1, x.2.2.2.2.1, x.2.2.2.2.2.1, x.2.2.2.2.2.2.1, v, x.2.2.2.2.2.2.2.2.1, x.2.2.2.2.2.2.2.2.2.1, x.2.2.2.2.2.2.2.2.2.2.1, x.2.2.2.2.2.2.2.2.2.2.2.1, x.2.2.2.2.2.2.2.2.2.2.2.2.1, x.2.2.2.2.2.2.2.2.2.2.2.2.2.1, x.2.2.2.2.2.2.2.2.2.2.2.2.2.2.1, x.2.2.2.2.2.2.2.2.2.2.2.2.2.2.2.1, x.2.2.2.2.2.2.2.2.2.2.2.2.2.2.2.2.1, x.2.2.2.2.2.2.2.2.2.2.2.2.2.2.2.2.2.1, x.2.2.2.2.2.2.2.2.2.2.2.2.2.2.2.2.2.2.1, x.2.2.2.2.2.2.2.2.2.2.2.2.2.2.2.2.2.2.2.1, x.2.2.2.2.2.2.2.2.2.2.2.2.2.2.2.2.2.2.2.2.1, x.2.2.2.2.2.2.2.2.2.2.2.2.2.2.2.2.2.2.2.2.2.1, x.2.2.2.2.2.2.2.2.2.2.2.2.2.2.2.2.2.2.2.2.2.2.1, x.2.2.2.2.2.2.2.2.2.2.2.2.2.2.2.2.2.2.2.2.2.2.2.1, x.2.2.2.2.2.2.2.2.2.2.2.2.2.2.2.2.2.2.2.2.2.2.2.2.1, x.2.2.2.2.2.2.2.2.2.2.2.2.2.2.2.2.2.2.2.2.2.2.2.2.2)
abbrev zM_field' (x : zM) (v : (Nat → Int64)) : zM := (x.1, x.2.1, x.2.2.1, x.2.2.2.1, x.2.2.2.2.1, x.2.2.2.2.2.1, x.2.2.2.2.2.2.1, x.2.2.2.2.2.2.2.1, v, x.2.2.2.2.2.2.2.2.2.1, x.2.2.2.2.2.2.2.2.2.2.1, x.2.2.2.2.2.2.2.2.2.2.2.1, x.2.2.2.2.2.2.2.2.2.2.2.2.1, x.2.2.2.2.2.2.2.2.2.2.2.2.2.1, x.2.2.2.2.2.2.2.2.2.2.2.2.2.2.1, x.2.2.2.2.2.2.2.2.2.2.2.2.2.2.2.1, x.2.2.2.2.2.2.2.2.2.2.2.2.2.2.2.2.1, x.2.2.2.2.2.2.2.2.2.2.2.2.2.2.2.2.2.1, x.2.2.2.2.2.2.2.2.2.2.2.2.2.2.2.2.2.2.1, x.2.2.2.2.2.2.2.2.2.2.2.2.2.2.2.2.2.2.2.1, x.2.2.2.2.2.2.2.2.2.2.2.2.2.2.2.2.2.2.2.2.1, x.2.2.2.2.2.2.2.2.2.2.2.2.2.2.2.2.2.2.2.2.2.1, x.2.2.2.2.2.2.2.2.2.2.2.2.2.2.2.2.2.2.2.2.2.2.1, x.2.2.2.2.2.2.2.2.2.2.2.2.2.2.2.2.2.2.2.2.2.2.2.1, x.2.2.2.2.2.2.2.2.2.2.2.2.2.2.2.2.2.2.2.2.2.2.2.2.1, x.2.2.2.2.2.2.2.2.2.2.2.2.2.2.2.2.2.2.2.2.2.2.2.2.2)
abbrev zM_dataAt' (x : zM) (v : Int32) : zM := (x.1, x.2.1, x.2.2.1, x.2.2.2.1, x.2.2.2.2.1, x.2.2.2.2.2.1, x.2.2.2.2.2.2.1, x.2.2.2.2.2.2.2.1, x.2.2.2.2.2.2.2.2.1, v, x.2.2.2.2.2.2.2.2.2.2.1, x.2.2.2.2.2.2.2.2.2.2.2.1, x.2.2.2.2.2.2.2.2.2.2.2.2.1, x.2.2.2.2.2.2.2.2.2.2.2.2.2.1, x.2.2.2.2.2.2.2.2.2.2.2.2.2.2.1, x.2.2.2.2.2.2.2.2.2.2.2.2.2.2.2.1, x.2.2.2.2.2.2.2.2.2.2.2.2.2.2.2.2.1, x.2.2.2.2.2.2.2.2.2.2.2.2.2.2.2.2.2.1, x.2.2.2.2.2.2.2.2.2.2.2.2.2.2.2.2.2.2.1, x.2.2.2.2.2.2.2.2.2.2.2.2.2.2.2.2.2.2.2.1, x.2.2.2.2.2.2.2.2.2.2.2.2.2.2.2.2.2.2.2.2.1, x.2.2.2.2.2.2.2.2.2.2.2.2.2.2.2.2.2.2.2.2.2.1, x.2.2.2.2.2.2.2.2.2.2.2.2.2.2.2.2.2.2.2.2.2.2.1, x.2.2.2.2.2.2.2.2.2.2.2.2.2.2.2.2.2.2.2.2.2.2.2.1, x.2.2.2.2.2.2.2.2.2.2.2.2.2.2.2.2.2.2.2.2.2.2.2.2.1, x.2.2.2.2.2.2.2.2.2.2.2.2.2.2.2.2.2.2.2.2.2.2.2.2.2)
abbrev zM_dataSize' (x : zM) (v : Int32) : zM := (x.1, x.2.1, x.2.2.1, x.2.2.2.1, x.2.2.2.2.1, x.2.2.2.2.2.1, x.2.2.2.2.2.2.1, x.2.2.2.2.2.2.2.1, x.2.2.2.2.2.2.2.2.1, x.2.2.2.2.2.2.2.2.2.1, v, x.2.2.2.2.2.2.2.2.2.2.2.1, x.2.2.2.2.2.2.2.2.2.2.2.2.1, x.2.2.2.2.2.2.2.2.2.2.2.2.2.1, x.2.2.2.2.2.2.2.2.2.2.2.2.2.2.1, x.2.2.2.2.2.2.2.2.2.2.2.2.2.2.2.1, x.2.2.2.2.2.2.2.2.2.2.2.2.2.2.2.2.1, x.2.2.2.2.2.2.2.2.2.2.2.2.2.2.2.2.2.1, x.2.2.2.2.2.2.2.2.2.2.2.2.2.2.2.2.2.2.1, x.2.2.2.2.2.2.2.2.2.2.2.2.2.2.2.2.2.2.2.1, x.2.2.2.2.2.2.2.2.2.2.2.2.2.2.2.2.2.2.2.2.1, x.2.2.2.2.2.2.2.2.2.2.2.2.2.2.2.2.2.2.2.2.2.1, x.2.2.2.2.2.2.2.2.2.2.2.2.2.2.2.2.2.2.2.2.2.2.1, x.2.2.2.2.2.2.2.2.2.2.2.2.2.2.2.2.2.2.2.2.2.2.2.1, x.2.2.2.2.2.2.2.2.2.2.2.2.2.2.2.2.2.2.2.2.2.2.2.2.1, x.2.2.2.2.2.2.2.2.2.2.2.2.2.2.2.2.2.2.2.2.2.2.2.2.2)
abbrev zM_secretAt' (x : zM) (v : Int32) : zM := (x.1, x.2.1, x.2.2.1, x.2.2.2.1, x.2.2.2.2.1, x.2.2.2.2.2.1, x.2.2.2.2.2.2.1, x.2.2.2.2.2.2.2.1, x.2.2.2.2.2.2.2.2.1, x.2.2.2.2.2.2.2.2.2.1, x.2.2.2.2.2.2.2.2.2.2.1, v, x.2.2.2.2.2.2.2.2.2.2.2.2.1, x.2.2.2.2.2.2.2.2.2.2.2.2.2.1, x.2.2.2.2.2.2.2.2.2.2.2.2.2.2.1, x.2.2.2.2.2.2.2.2.2.2.2.2.2.2.2.1, x.2.2.2.2.2.2.2.2.2.2.2.2.2.2.2.2.1, x.2.2.2.2.2.2.2.2.2.2.2.2.2.2.2.2.2.1, x.2.2.2.2.2.2.2.2.2.2.2.2.2.2.2.2.2.2.1, x.2.2.2.2.2.2.2.2.2.2.2.2.2.2.2.2.2.2.2.1, x.2.2.2.2.2.2.2.2.2.2.2.2.2.2.2.2.2.2.2.2.1, x.2.2.2.2.2.2.2.2.2.2.2.2.2.2.2.2.2.2.2.2.2.1, x.2.2.2.2.2.2.2.2.2.2.2.2.2.2.2.2.2.2.2.2.2.2.1, x.2.2.2.2.2.2.2.2.2.2.2.2.2.2.2.2.2.2.2.2.2.2.2.1, x.2.2.2.2.2.2.2.2.2.2.2.2.2.2.2.2.2.2.2.2.2.2.2.2.1, x.2.2.2.2.2.2.2.2.2.2.2.2.2.2.2.2.2.2.2.2.2.2.2.2.2)
abbrev zM_ranges' (x : zM) (v : Int32) : zM := (x.1, x.2.1, x.2.2.1, x.2.2.2.1, x.2.2.2.2.1, x.2.2.2.2.2.1, x.2.2.2.2.2.2.1, x.2.2.2.2.2.2.2.1, x.2.2.2.2.2.2.2.2.1, x.2.2.2.2.2.2.2.2.2.1, x.2.2.2.2.2.2.2.2.2.2.1, x.2.2.2.2.2.2.2.2.2.2.2.1, v, x.2.2.2.2.2.2.2.2.2.2.2.2.2.1, x.2.2.2.2.2.2.2.2.2.2.2.2.2.2.1, x.2.2.2.2.2.2.2.2.2.2.2.2.2.2.2.1, x.2.2.2.2.2.2.2.2.2.2.2.2.2.2.2.2.1, x.2.2.2.2.2.2.2.2.2.2.2.2.2.2.2.2.2.1, x.2.2.2.2.2.2.2.2.2.2.2.2.2.2.2.2.2.2.1, x.2.2.2.2.2.2.2.2.2.2.2.2.2.2.2.2.2.2.2.1, x.2.2.2.2.2.2.2.2.2.2.2.2.2.2.2.2.2.2.2.2.1, x.2.2.2.2.2.2.2.2.2.2.2.2.2.2.2.2.2.2.2.2.2.1, x.2.2.2.2.2.2.2.2.2.2.2.2.2.2.2.2.2.2.2.2.2.2.1, x.2.2.2.2.2.2.2.2.2.2.2.2.2.2.2.2.2.2.2.2.2.2.2.1, x.2.2.2.2.2.2.2.2.2.2.2.2.2.2.2.2.2.2.2.2.2.2.2.2.1, x.2.2.2.2.2.2.2.2.2.2.2.2.2.2.2.2.2.2.2.2.2.2.2.2.2)
abbrev zM_rangesAt' (x : zM) (v : Int32) : zM := (x.1, x.2.1, x.2.2.1, x.2.2.2.1, x.2.2.2.2.1, x.2.2.2.2.2.1, x.2.2.2.2.2.2.1, x.2.2.2.2.2.2.2.1, x.2.2.2.2.2.2.2.2.1, x.2.2.2.2.2.2.2.2.2.1, x.2.2.2.2.2.2.2.2.2.2.1, x.2.2.2.2.2.2.2.2.2.2.2.1, x.2.2.2.2.2.2.2.2.2.2.2.2.1, v, x.2.2.2.2.2.2.2.2.2.2.2.2.2.2.1, x.2.2.2.2.2.2.2.2.2.2.2.2.2.2.2.1, x.2.2.2.2.2.2.2.2.2.2.2.2.2.2.2.2.1, x.2.2.2.2.2.2.2.2.2.2.2.2.2.2.2.2.2.1, x.2.2.2.2.2.2.2.2.2.2.2.2.2.2.2.2.2.2.1, x.2.2.2.2.2.2.2.2.2.2.2.2.2.2.2.2.2.2.2.1, x.2.2.2.2.2.2.2.2.2.2.2.2.2.2.2.2.2.2.2.2.1, x.2.2.2.2.2.2.2.2.2.2.2.2.2.2.2.2.2.2.2.2.2.1, x.2.2.2.2.2.2.2.2.2.2.2.2.2.2.2.2.2.2.2.2.2.2.1, x.2.2.2.2.2.2.2.2.2.2.2.2.2.2.2.2.2.2.2.2.2.2.2.1, x.2.2.2.2.2.2.2.2.2.2.2.2.2.2.2.2.2.2.2.2.2.2.2.2.1, x.2.2.2.2.2.2.2.2.2.2.2.2.2.2.2.2.2.2.2.2.2.2.2.2.2)
abbrev zM_at' (x : zM) (v : Int32) : zM := (x.1, x.2.1, x.2.2.1, x.2.2.2.1, x.2.2.2.2.1, x.2.2.2.2.2.1, x.2.2.2.2.2.2.1, x.2.2.2.2.2.2.2.1, x.2.2.2.2.2.2.2.2.1, x.2.2.2.2.2.2.2.2.2.1, x.2.2.2.2.2.2.2.2.2.2.1, x.2.2.2.2.2.2.2.2.2.2.2.1, x.2.2.2.2.2.2.2.2.2.2.2.2.1, x.2.2.2.2.2.2.2.2.2.2.2.2.2.1, v, x.2.2.2.2.2.2.2.2.2.2.2.2.2.2.2.1, x.2.2.2.2.2.2.2.2.2.2.2.2.2.2.2.2.1, x.2.2.2.2.2.2.2.2.2.2.2.2.2.2.2.2.2.1, x.2.2.2.2.2.2.2.2.2.2.2.2.2.2.2.2.2.2.1, x.2.2.2.2.2.2.2.2.2.2.2.2.2.2.2.2.2.2.2.1, x.2.2.2.2.2.2.2.2.2.2.2.2.2.2.2.2.2.2.2.2.1, x.2.2.2.2.2.2.2.2.2.2.2.2.2.2.2.2.2.2.2.2.2.1, x.2.2.2.2.2.2.2.2.2.2.2.2.2.2.2.2.2.2.2.2.2.2.1, x.2.2.2.2.2.2.2.2.2.2.2.2.2.2.2.2.2.2.2.2.2.2.2.1, x.2.2.2.2.2.2.2.2.2.2.2.2.2.2.2.2.2.2.2.2.2.2.2.2.1, x.2.2.2.2.2.2.2.2.2.2.2.2.2.2.2.2.2.2.2.2.2.2.2.2.2)
abbrev zM_over' (x : zM) (v : Int32) : zM := (x.1, x.2.1, x.2.2.1, x.2.2.2.1, x.2.2.2.2.1, x.2.2.2.2.2.1, x.2.2.2.2.2.2.1, x.2.2.2.2.2.2.2.1, x.2.2.2.2.2.2.2.2.1, x.2.2.2.2.2.2.2.2.2.1, x.2.2.2.2.2.2.2.2.2.2.1, x.2.2.2.2.2.2.2.2.2.2.2.1, x.2.2.2.2.2.2.2.2.2.2.2.2.1, x.2.2.2.2.2.2.2.2.2.2.2.2.2.1, x.2.2.2.2.2.2.2.2.2.2.2.2.2.2.1, v, x.2.2.2.2.2.2.2.2.2.2.2.2.2.2.2.2.1, x.2.2.2.2.2.2.2.2.2.2.2.2.2.2.2.2.2.1, x.2.2.2.2.2.2.2.2.2.2.2.2.2.2.2.2.2.2.1, x.2.2.2.2.2.2.2.2.2.2.2.2.2.2.2.2.2.2.2.1, x.2.2.2.2.2.2.2.2.2.2.2.2.2.2.2.2.2.2.2.2.1, x.2.2.2.2.2.2.2.2.2.2.2.2.2.2.2.2.2.2.2.2.2.1, x.2.2.2.2.2.2.2.2.2.2.2.2.2.2.2.2.2.2.2.2.2.2.1, x.2.2.2.2.2.2.2.2.2.2.2.2.2.2.2.2.2.2.2.2.2.2.2.1, x.2.2.2.2.2.2.2.2.2.2.2.2.2.2.2.2.2.2.2.2.2.2.2.2.1, x.2.2.2.2.2.2.2.2.2.2.2.2.2.2.2.2.2.2.2.2.2.2.2.2.2)
abbrev zM_end' (x : zM) (v : Int32) : zM := (x.1, x.2.1, x.2.2.1, x.2.2.2.1, x.2.2.2.2.1, x.2.2.2.2.2.1, x.2.2.2.2.2.2.1, x.2.2.2.2.2.2.2.1, x.2.2.2.2.2.2.2.2.1, x.2.2.2.2.2.2.2.2.2.1, x.2.2.2.2.2.2.2.2.2.2.1, x.2.2.2.2.2.2.2.2.2.2.2.1, x.2.2.2.2.2.2.2.2.2.2.2.2.1, x.2.2.2.2.2.2.2.2.2.2.2.2.2.1, x.2.2.2.2.2.2.2.2.2.2.2.2.2.2.1, x.2.2.2.2.2.2.2.2.2.2.2.2.2.2.2.1, v, x.2.2.2.2.2.2.2.2.2.2.2.2.2.2.2.2.2.1, x.2.2.2.2.2.2.2.2.2.2.2.2.2.2.2.2.2.2.1, x.2.2.2.2.2.2.2.2.2.2.2.2.2.2.2.2.2.2.2.1, x.2.2.2.2.2.2.2.2.2.2.2.2.2.2.2.2.2.2.2.2.1, x.2.2.2.2.2.2.2.2.2.2.2.2.2.2.2.2.2.2.2.2.2.1, x.2.2.2.2.2.2.2.2.2.2.2.2.2.2.2.2.2.2.2.2.2.2.1, x.2.2.2.2.2.2.2.2.2.2.2.2.2.2.2.2.2.2.2.2.2.2.2.1, x.2.2.2.2.2.2.2.2.2.2.2.2.2.2.2.2.2.2.2.2.2.2.2.2.1, x.2.2.2.2.2.2.2.2.2.2.2.2.2.2.2.2.2.2.2.2.2.2.2.2.2)
abbrev zM_draft' (x : zM) (v : (Nat → Int64)) : zM := (x.1, x.2.1, x.2.2.1, x.2.2.2.1, x.2.2.2.2.1, x.2.2.2.2.2.1, x.2.2.2.2.2.2.1, x.2.2.2.2.2.2.2.1, x.2.2.2.2.2.2.2.2.1, x.2.2.2.2.2.2.2.2.2.1, x.2.2.2.2.2.2.2.2.2.2.1, x.2.2.2.2.2.2.2.2.2.2.2.1, x.2.2.2.2.2.2.2.2.2.2.2.2.1, x.2.2.2.2.2.2.2.2.2.2.2.2.2.1, x.2.2.2.2.2.2.2.2.2.2.2.2.2.2.1, x.2.2.2.2.2.2.2.2.2.2.2.2.2.2.2.1, x.2.2.2.2.2.2.2.2.2.2.2.2.2.2.2.2.1, v, x.2.2.2.2.2.2.2.2.2.2.2.2.2.2.2.2.2.2.1, x.2.2.2.2.2.2.2.2.2.2.2.2.2.2.2.2.2.2.2.1, x.2.2.2.2.2.2.2.2.2.2.2.2.2.2.2.2.2.2.2.2.1, x.2.2.2.2.2.2.2.2.2.2.2.2.2.2.2.2.2.2.2.2.2.1, x.2.2.2.2.2.2.2.2.2.2.2.2.2.2.2.2.2.2.2.2.2.2.1, x.2.2.2.2.2.2.2.2.2.2.2.2.2.2.2.2.2.2.2.2.2.2.2.1, x.2.2.2.2.2.2.2.2.2.2.2.2.2.2.2.2.2.2.2.2.2.2.2.2.1, x.2.2.2.2.2.2.2.2.2.2.2.2.2.2.2.2.2.2.2.2.2.2.2.2.2)
abbrev zM_given' (x : zM) (v : (Nat → Int32)) : zM := (x.1, x.2.1, x.2.2.1, x.2.2.2.1, x.2.2.2.2.1, x.2.2.2.2.2.1, x.2.2.2.2.2.2.1, x.2.2.2.2.2.2.2.1, x.2.2.2.2.2.2.2.2.1, x.2.2.2.2.2.2.2.2.2.1, x.2.2.2.2.2.2.2.2.2.2.1, x.2.2.2.2.2.2.2.2.2.2.2.1, x.2.2.2.2.2.2.2.2.2.2.2.2.1, x.2.2.2.2.2.2.2.2.2.2.2.2.2.1, x.2.2.2.2.2.2.2.2.2.2.2.2.2.2.1, x.2.2.2.2.2.2.2.2.2.2.2.2.2.2.2.1, x.2.2.2.2.2.2.2.2.2.2.2.2.2.2.2.2.1, x.2.2.2.2.2.2.2.2.2.2.2.2.2.2.2.2.2.1, v, x.2.2.2.2.2.2.2.2.2.2.2.2.2.2.2.2.2.2.2.1, x.2.2.2.2.2.2.2.2.2.2.2.2.2.2.2.2.2.2.2.2.1, x.2.2.2.2.2.2.2.2.2.2.2.2.2.2.2.2.2.2.2.2.2.1, x.2.2.2.2.2.2.2.2.2.2.2.2.2.2.2.2.2.2.2.2.2.2.1, x.2.2.2.2.2.2.2.2.2.2.2.2.2.2.2.2.2.2.2.2.2.2.2.1, x.2.2.2.2.2.2.2.2.2.2.2.2.2.2.2.2.2.2.2.2.2.2.2.2.1, x.2.2.2.2.2.2.2.2.2.2.2.2.2.2.2.2.2.2.2.2.2.2.2.2.2)
abbrev zM_gives' (x : zM) (v : Int32) : zM := (x.1, x.2.1, x.2.2.1, x.2.2.2.1, x.2.2.2.2.1, x.2.2.2.2.2.1, x.2.2.2.2.2.2.1, x.2.2.2.2.2.2.2.1, x.2.2.2.2.2.2.2.2.1, x.2.2.2.2.2.2.2.2.2.1, x.2.2.2.2.2.2.2.2.2.2.1, x.2.2.2.2.2.2.2.2.2.2.2.1, x.2.2.2.2.2.2.2.2.2.2.2.2.1, x.2.2.2.2.2.2.2.2.2.2.2.2.2.1, x.2.2.2.2.2.2.2.2.2.2.2.2.2.2.1, x.2.2.2.2.2.2.2.2.2.2.2.2.2.2.2.1, x.2.2.2.2.2.2.2.2.2.2.2.2.2.2.2.2.1, x.2.2.2.2.2.2.2.2.2.2.2.2.2.2.2.2.2.1, x.2.2.2.2.2.2.2.2.2.2.2.2.2.2.2.2.2.2.1, v, x.2.2.2.2.2.2.2.2.2.2.2.2.2.2.2.2.2.2.2.2.1, x.2.2.2.2.2.2.2.2.2.2.2.2.2.2.2.2.2.2.2.2.2.1, x.2.2.2.2.2.2.2.2.2.2.2.2.2.2.2.2.2.2.2.2.2.2.1, x.2.2.2.2.2.2.2.2.2.2.2.2.2.2.2.2.2.2.2.2.2.2.2.1, x.2.2.2.2.2.2.2.2.2.2.2.2.2.2.2.2.2.2.2.2.2.2.2.2.1, x.2.2.2.2.2.2.2.2.2.2.2.2.2.2.2.2.2.2.2.2.2.2.2.2.2)
abbrev zM_low' (x : zM) (v : (Nat → Int64)) : zM := (x.1, x.2.1, x.2.2.1, x.2.2.2.1, x.2.2.2.2.1, x.2.2.2.2.2.1, x.2.2.2.2.2.2.1, x.2.2.2.2.2.2.2.1, x.2.2.2.2.2.2.2.2.1, x.2.2.2.2.2.2.2.2.2.1, x.2.2.2.2.2.2.2.2.2.2.1, x.2.2.2.2.2.2.2.2.2.2.2.1, x.2.2.2.2.2.2.2.2.2.2.2.2.1, x.2.2.2.2.2.2.2.2.2.2.2.2.2.1, x.2.2.2.2.2.2.2.2.2.2.2.2.2.2.1, x.2.2.2.2.2.2.2.2.2.2.2.2.2.2.2.1, x.2.2.2.2.2.2.2.2.2.2.2.2.2.2.2.2.1, x.2.2.2.2.2.2.2.2.2.2.2.2.2.2.2.2.2.1, x.2.2.2.2.2.2.2.2.2.2.2.2.2.2.2.2.2.2.1, x.2.2.2.2.2.2.2.2.2.2.2.2.2.2.2.2.2.2.2.1, v, x.2.2.2.2.2.2.2.2.2.2.2.2.2.2.2.2.2.2.2.2.2.1, x.2.2.2.2.2.2.2.2.2.2.2.2.2.2.2.2.2.2.2.2.2.2.1, x.2.2.2.2.2.2.2.2.2.2.2.2.2.2.2.2.2.2.2.2.2.2.2.1, x.2.2.2.2.2.2.2.2.2.2.2.2.2.2.2.2.2.2.2.2.2.2.2.2.1, x.2.2.2.2.2.2.2.2.2.2.2.2.2.2.2.2.2.2.2.2.2.2.2.2.2)
abbrev zM_high' (x : zM) (v : (Nat → Int64)) : zM := (x.1, x.2.1, x.2.2.1, x.2.2.2.1, x.2.2.2.2.1, x.2.2.2.2.2.1, x.2.2.2.2.2.2.1, x.2.2.2.2.2.2.2.1, x.2.2.2.2.2.2.2.2.1, x.2.2.2.2.2.2.2.2.2.1, x.2.2.2.2.2.2.2.2.2.2.1, x.2.2.2.2.2.2.2.2.2.2.2.1, x.2.2.2.2.2.2.2.2.2.2.2.2.1, x.2.2.2.2.2.2.2.2.2.2.2.2.2.1, x.2.2.2.2.2.2.2.2.2.2.2.2.2.2.1, x.2.2.2.2.2.2.2.2.2.2.2.2.2.2.2.1, x.2.2.2.2.2.2.2.2.2.2.2.2.2.2.2.2.1, x.2.2.2.2.2.2.2.2.2.2.2.2.2.2.2.2.2.1, x.2.2.2.2.2.2.2.2.2.2.2.2.2.2.2.2.2.2.1, x.2.2.2.2.2.2.2.2.2.2.2.2.2.2.2.2.2.2.2.1, x.2.2.2.2.2.2.2.2.2.2.2.2.2.2.2.2.2.2.2.2.1, v, x.2.2.2.2.2.2.2.2.2.2.2.2.2.2.2.2.2.2.2.2.2.2.1, x.2.2.2.2.2.2.2.2.2.2.2.2.2.2.2.2.2.2.2.2.2.2.2.1, x.2.2.2.2.2.2.2.2.2.2.2.2.2.2.2.2.2.2.2.2.2.2.2.2.1, x.2.2.2.2.2.2.2.2.2.2.2.2.2.2.2.2.2.2.2.2.2.2.2.2.2)
abbrev zM_spans' (x : zM) (v : Int32) : zM := (x.1, x.2.1, x.2.2.1, x.2.2.2.1, x.2.2.2.2.1, x.2.2.2.2.2.1, x.2.2.2.2.2.2.1, x.2.2.2.2.2.2.2.1, x.2.2.2.2.2.2.2.2.1, x.2.2.2.2.2.2.2.2.2.1, x.2.2.2.2.2.2.2.2.2.2.1, x.2.2.2.2.2.2.2.2.2.2.2.1, x.2.2.2.2.2.2.2.2.2.2.2.2.1, x.2.2.2.2.2.2.2.2.2.2.2.2.2.1, x.2.2.2.2.2.2.2.2.2.2.2.2.2.2.1, x.2.2.2.2.2.2.2.2.2.2.2.2.2.2.2.1, x.2.2.2.2.2.2.2.2.2.2.2.2.2.2.2.2.1, x.2.2.2.2.2.2.2.2.2.2.2.2.2.2.2.2.2.1, x.2.2.2.2.2.2.2.2.2.2.2.2.2.2.2.2.2.2.1, x.2.2.2.2.2.2.2.2.2.2.2.2.2.2.2.2.2.2.2.1, x.2.2.2.2.2.2.2.2.2.2.2.2.2.2.2.2.2.2.2.2.1, x.2.2.2.2.2.2.2.2.2.2.2.2.2.2.2.2.2.2.2.2.2.1, v, x.2.2.2.2.2.2.2.2.2.2.2.2.2.2.2.2.2.2.2.2.2.2.2.1, x.2.2.2.2.2.2.2.2.2.2.2.2.2.2.2.2.2.2.2.2.2.2.2.2.1, x.2.2.2.2.2.2.2.2.2.2.2.2.2.2.2.2.2.2.2.2.2.2.2.2.2)
abbrev zM_packets' (x : zM) (v : Int32) : zM := (x.1, x.2.1, x.2.2.1, x.2.2.2.1, x.2.2.2.2.1, x.2.2.2.2.2.1, x.2.2.2.2.2.2.1, x.2.2.2.2.2.2.2.1, x.2.2.2.2.2.2.2.2.1, x.2.2.2.2.2.2.2.2.2.1, x.2.2.2.2.2.2.2.2.2.2.1, x.2.2.2.2.2.2.2.2.2.2.2.1, x.2.2.2.2.2.2.2.2.2.2.2.2.1, x.2.2.2.2.2.2.2.2.2.2.2.2.2.1, x.2.2.2.2.2.2.2.2.2.2.2.2.2.2.1, x.2.2.2.2.2.2.2.2.2.2.2.2.2.2.2.1, x.2.2.2.2.2.2.2.2.2.2.2.2.2.2.2.2.1, x.2.2.2.2.2.2.2.2.2.2.2.2.2.2.2.2.2.1, x.2.2.2.2.2.2.2.2.2.2.2.2.2.2.2.2.2.2.1, x.2.2.2.2.2.2.2.2.2.2.2.2.2.2.2.2.2.2.2.1, x.2.2.2.2.2.2.2.2.2.2.2.2.2.2.2.2.2.2.2.2.1, x.2.2.2.2.2.2.2.2.2.2.2.2.2.2.2.2.2.2.2.2.2.1, x.2.2.2.2.2.2.2.2.2.2.2.2.2.2.2.2.2.2.2.2.2.2.1, v, x.2.2.2.2.2.2.2.2.2.2.2.2.2.2.2.2.2.2.2.2.2.2.2.2.1, x.2.2.2.2.2.2.2.2.2.2.2.2.2.2.2.2.2.2.2.2.2.2.2.2.2)
abbrev zM_packet' (x : zM) (v : (Nat → Int32)) : zM := (x.1, x.2.1, x.2.2.1, x.2.2.2.1, x.2.2.2.2.1, x.2.2.2.2.2.1, x.2.2.2.2.2.2.1, x.2.2.2.2.2.2.2.1, x.2.2.2.2.2.2.2.2.1, x.2.2.2.2.2.2.2.2.2.1, x.2.2.2.2.2.2.2.2.2.2.1, x.2.2.2.2.2.2.2.2.2.2.2.1, x.2.2.2.2.2.2.2.2.2.2.2.2.1, x.2.2.2.2.2.2.2.2.2.2.2.2.2.1, x.2.2.2.2.2.2.2.2.2.2.2.2.2.2.1, x.2.2.2.2.2.2.2.2.2.2.2.2.2.2.2.1, x.2.2.2.2.2.2.2.2.2.2.2.2.2.2.2.2.1, x.2.2.2.2.2.2.2.2.2.2.2.2.2.2.2.2.2.1, x.2.2.2.2.2.2.2.2.2.2.2.2.2.2.2.2.2.2.1, x.2.2.2.2.2.2.2.2.2.2.2.2.2.2.2.2.2.2.2.1, x.2.2.2.2.2.2.2.2.2.2.2.2.2.2.2.2.2.2.2.2.1, x.2.2.2.2.2.2.2.2.2.2.2.2.2.2.2.2.2.2.2.2.2.1, x.2.2.2.2.2.2.2.2.2.2.2.2.2.2.2.2.2.2.2.2.2.2.1, x.2.2.2.2.2.2.2.2.2.2.2.2.2.2.2.2.2.2.2.2.2.2.2.1, v, x.2.2.2.2.2.2.2.2.2.2.2.2.2.2.2.2.2.2.2.2.2.2.2.2.2)
abbrev zM_known' (x : zM) (v : (Nat → Int64)) : zM := (x.1, x.2.1, x.2.2.1, x.2.2.2.1, x.2.2.2.2.1, x.2.2.2.2.2.1, x.2.2.2.2.2.2.1, x.2.2.2.2.2.2.2.1, x.2.2.2.2.2.2.2.2.1, x.2.2.2.2.2.2.2.2.2.1, x.2.2.2.2.2.2.2.2.2.2.1, x.2.2.2.2.2.2.2.2.2.2.2.1, x.2.2.2.2.2.2.2.2.2.2.2.2.1, x.2.2.2.2.2.2.2.2.2.2.2.2.2.1, x.2.2.2.2.2.2.2.2.2.2.2.2.2.2.1, x.2.2.2.2.2.2.2.2.2.2.2.2.2.2.2.1, x.2.2.2.2.2.2.2.2.2.2.2.2.2.2.2.2.1, x.2.2.2.2.2.2.2.2.2.2.2.2.2.2.2.2.2.1, x.2.2.2.2.2.2.2.2.2.2.2.2.2.2.2.2.2.2.1, x.2.2.2.2.2.2.2.2.2.2.2.2.2.2.2.2.2.2.2.1, x.2.2.2.2.2.2.2.2.2.2.2.2.2.2.2.2.2.2.2.2.1, x.2.2.2.2.2.2.2.2.2.2.2.2.2.2.2.2.2.2.2.2.2.1, x.2.2.2.2.2.2.2.2.2.2.2.2.2.2.2.2.2.2.2.2.2.2.1, x.2.2.2.2.2.2.2.2.2.2.2.2.2.2.2.2.2.2.2.2.2.2.2.1, x.2.2.2.2.2.2.2.2.2.2.2.2.2.2.2.2.2.2.2.2.2.2.2.2.1, v)
abbrev zwM (o o_tape o_frameAt o_field o_draft o_given o_low o_high o_packet o_known : Nat) (cB cI cL : ClassId) (x : zM) : va_W := [(o, .inr (8, [.int (zM_thrown x), .ref o_tape, .int (zM_size x), .int (zM_fault x), .int (zM_faultAt x), .int (zM_frames x), .ref o_frameAt, .int (zM_framesEnd x), .ref o_field, .int (zM_dataAt x), .int (zM_dataSize x), .int (zM_secretAt x), .int (zM_ranges x), .int (zM_rangesAt x), .int (zM_at x), .int (zM_over x), .int (zM_end x), .ref o_draft, .ref o_given, .int (zM_gives x), .ref o_low, .ref o_high, .int (zM_spans x), .int (zM_packets x), .ref o_packet, .ref o_known])), (o_tape, .inl (cB, 65536, .inl (zM_tape x))), (o_frameAt, .inl (cI, 65536, .inl (zM_frameAt x))), (o_field, .inl (cL, 12, .inr (.inl (zM_field x)))), (o_draft, .inl (cL, 12, .inr (.inl (zM_draft x)))), (o_given, .inl (cB, 2000, .inl (zM_given x))), (o_low, .inl (cL, 500, .inr (.inl (zM_low x)))), (o_high, .inl (cL, 500, .inr (.inl (zM_high x)))), (o_packet, .inl (cI, 49152, .inl (zM_packet x))), (o_known, .inl (cL, 17, .inr (.inl (zM_known x))))]
theorem zq_M_thrown {o o_tape o_frameAt o_field o_draft o_given o_low o_high o_packet o_known : Nat} {cB cI cL : ClassId} {x : zM} {v : Int32} : (zwM o o_tape o_frameAt o_field o_draft o_given o_low o_high o_packet o_known cB cI cL x).set 0 (o, .inr (8, ([.int (zM_thrown x), .ref o_tape, .int (zM_size x), .int (zM_fault x), .int (zM_faultAt x), .int (zM_frames x), .ref o_frameAt, .int (zM_framesEnd x), .ref o_field, .int (zM_dataAt x), .int (zM_dataSize x), .int (zM_secretAt x), .int (zM_ranges x), .int (zM_rangesAt x), .int (zM_at x), .int (zM_over x), .int (zM_end x), .ref o_draft, .ref o_given, .int (zM_gives x), .ref o_low, .ref o_high, .int (zM_spans x), .int (zM_packets x), .ref o_packet, .ref o_known] : List Value).set 0 (.int v))) = zwM o o_tape o_frameAt o_field o_draft o_given o_low o_high o_packet o_known cB cI cL (zM_thrown' x v) := rfl
theorem zp_M_thrown {D : va_G} {cl : List vw_C} {H : Heap} {o o_tape o_frameAt o_field o_draft o_given o_low o_high o_packet o_known : Nat} {cB cI cL : ClassId} {x : zM} {v : Int32} (h : va_P D cl ((zwM o o_tape o_frameAt o_field o_draft o_given o_low o_high o_packet o_known cB cI cL x).set 0 (o, .inr (8, ([.int (zM_thrown x), .ref o_tape, .int (zM_size x), .int (zM_fault x), .int (zM_faultAt x), .int (zM_frames x), .ref o_frameAt, .int (zM_framesEnd x), .ref o_field, .int (zM_dataAt x), .int (zM_dataSize x), .int (zM_secretAt x), .int (zM_ranges x), .int (zM_rangesAt x), .int (zM_at x), .int (zM_over x), .int (zM_end x), .ref o_draft, .ref o_given, .int (zM_gives x), .ref o_low, .ref o_high, .int (zM_spans x), .int (zM_packets x), .ref o_packet, .ref o_known] : List Value).set 0 (.int v)))) H) : va_P D cl (zwM o o_tape o_frameAt o_field o_draft o_given o_low o_high o_packet o_known cB cI cL (zM_thrown' x v)) H := zq_M_thrown ▸ h
theorem zd_M_thrown {A : Nat → Prop} {o o_tape o_frameAt o_field o_draft o_given o_low o_high o_packet o_known : Nat} {cB cI cL : ClassId} {x : zM} {v : Int32} (h : va_D A ((zwM o o_tape o_frameAt o_field o_draft o_given o_low o_high o_packet o_known cB cI cL x).set 0 (o, .inr (8, ([.int (zM_thrown x), .ref o_tape, .int (zM_size x), .int (zM_fault x), .int (zM_faultAt x), .int (zM_frames x), .ref o_frameAt, .int (zM_framesEnd x), .ref o_field, .int (zM_dataAt x), .int (zM_dataSize x), .int (zM_secretAt x), .int (zM_ranges x), .int (zM_rangesAt x), .int (zM_at x), .int (zM_over x), .int (zM_end x), .ref o_draft, .ref o_given, .int (zM_gives x), .ref o_low, .ref o_high, .int (zM_spans x), .int (zM_packets x), .ref o_packet, .ref o_known] : List Value).set 0 (.int v))))) : va_D A (zwM o o_tape o_frameAt o_field o_draft o_given o_low o_high o_packet o_known cB cI cL (zM_thrown' x v)) := zq_M_thrown ▸ h
theorem zq_M_tape {o o_tape o_frameAt o_field o_draft o_given o_low o_high o_packet o_known : Nat} {cB cI cL : ClassId} {x : zM} {v : (Nat → Int32)} : (zwM o o_tape o_frameAt o_field o_draft o_given o_low o_high o_packet o_known cB cI cL x).set 1 (o_tape, .inl (cB, 65536, .inl v)) = zwM o o_tape o_frameAt o_field o_draft o_given o_low o_high o_packet o_known cB cI cL (zM_tape' x v) := rfl
theorem zp_M_tape {D : va_G} {cl : List vw_C} {H : Heap} {o o_tape o_frameAt o_field o_draft o_given o_low o_high o_packet o_known : Nat} {cB cI cL : ClassId} {x : zM} {v : (Nat → Int32)} (h : va_P D cl ((zwM o o_tape o_frameAt o_field o_draft o_given o_low o_high o_packet o_known cB cI cL x).set 1 (o_tape, .inl (cB, 65536, .inl v))) H) : va_P D cl (zwM o o_tape o_frameAt o_field o_draft o_given o_low o_high o_packet o_known cB cI cL (zM_tape' x v)) H := zq_M_tape ▸ h
theorem zd_M_tape {A : Nat → Prop} {o o_tape o_frameAt o_field o_draft o_given o_low o_high o_packet o_known : Nat} {cB cI cL : ClassId} {x : zM} {v : (Nat → Int32)} (h : va_D A ((zwM o o_tape o_frameAt o_field o_draft o_given o_low o_high o_packet o_known cB cI cL x).set 1 (o_tape, .inl (cB, 65536, .inl v)))) : va_D A (zwM o o_tape o_frameAt o_field o_draft o_given o_low o_high o_packet o_known cB cI cL (zM_tape' x v)) := zq_M_tape ▸ h
theorem zq_M_size {o o_tape o_frameAt o_field o_draft o_given o_low o_high o_packet o_known : Nat} {cB cI cL : ClassId} {x : zM} {v : Int32} : (zwM o o_tape o_frameAt o_field o_draft o_given o_low o_high o_packet o_known cB cI cL x).set 0 (o, .inr (8, ([.int (zM_thrown x), .ref o_tape, .int (zM_size x), .int (zM_fault x), .int (zM_faultAt x), .int (zM_frames x), .ref o_frameAt, .int (zM_framesEnd x), .ref o_field, .int (zM_dataAt x), .int (zM_dataSize x), .int (zM_secretAt x), .int (zM_ranges x), .int (zM_rangesAt x), .int (zM_at x), .int (zM_over x), .int (zM_end x), .ref o_draft, .ref o_given, .int (zM_gives x), .ref o_low, .ref o_high, .int (zM_spans x), .int (zM_packets x), .ref o_packet, .ref o_known] : List Value).set 2 (.int v))) = zwM o o_tape o_frameAt o_field o_draft o_given o_low o_high o_packet o_known cB cI cL (zM_size' x v) := rfl
theorem zp_M_size {D : va_G} {cl : List vw_C} {H : Heap} {o o_tape o_frameAt o_field o_draft o_given o_low o_high o_packet o_known : Nat} {cB cI cL : ClassId} {x : zM} {v : Int32} (h : va_P D cl ((zwM o o_tape o_frameAt o_field o_draft o_given o_low o_high o_packet o_known cB cI cL x).set 0 (o, .inr (8, ([.int (zM_thrown x), .ref o_tape, .int (zM_size x), .int (zM_fault x), .int (zM_faultAt x), .int (zM_frames x), .ref o_frameAt, .int (zM_framesEnd x), .ref o_field, .int (zM_dataAt x), .int (zM_dataSize x), .int (zM_secretAt x), .int (zM_ranges x), .int (zM_rangesAt x), .int (zM_at x), .int (zM_over x), .int (zM_end x), .ref o_draft, .ref o_given, .int (zM_gives x), .ref o_low, .ref o_high, .int (zM_spans x), .int (zM_packets x), .ref o_packet, .ref o_known] : List Value).set 2 (.int v)))) H) : va_P D cl (zwM o o_tape o_frameAt o_field o_draft o_given o_low o_high o_packet o_known cB cI cL (zM_size' x v)) H := zq_M_size ▸ h
theorem zd_M_size {A : Nat → Prop} {o o_tape o_frameAt o_field o_draft o_given o_low o_high o_packet o_known : Nat} {cB cI cL : ClassId} {x : zM} {v : Int32} (h : va_D A ((zwM o o_tape o_frameAt o_field o_draft o_given o_low o_high o_packet o_known cB cI cL x).set 0 (o, .inr (8, ([.int (zM_thrown x), .ref o_tape, .int (zM_size x), .int (zM_fault x), .int (zM_faultAt x), .int (zM_frames x), .ref o_frameAt, .int (zM_framesEnd x), .ref o_field, .int (zM_dataAt x), .int (zM_dataSize x), .int (zM_secretAt x), .int (zM_ranges x), .int (zM_rangesAt x), .int (zM_at x), .int (zM_over x), .int (zM_end x), .ref o_draft, .ref o_given, .int (zM_gives x), .ref o_low, .ref o_high, .int (zM_spans x), .int (zM_packets x), .ref o_packet, .ref o_known] : List Value).set 2 (.int v))))) : va_D A (zwM o o_tape o_frameAt o_field o_draft o_given o_low o_high o_packet o_known cB cI cL (zM_size' x v)) := zq_M_size ▸ h
theorem zq_M_fault {o o_tape o_frameAt o_field o_draft o_given o_low o_high o_packet o_known : Nat} {cB cI cL : ClassId} {x : zM} {v : Int32} : (zwM o o_tape o_frameAt o_field o_draft o_given o_low o_high o_packet o_known cB cI cL x).set 0 (o, .inr (8, ([.int (zM_thrown x), .ref o_tape, .int (zM_size x), .int (zM_fault x), .int (zM_faultAt x), .int (zM_frames x), .ref o_frameAt, .int (zM_framesEnd x), .ref o_field, .int (zM_dataAt x), .int (zM_dataSize x), .int (zM_secretAt x), .int (zM_ranges x), .int (zM_rangesAt x), .int (zM_at x), .int (zM_over x), .int (zM_end x), .ref o_draft, .ref o_given, .int (zM_gives x), .ref o_low, .ref o_high, .int (zM_spans x), .int (zM_packets x), .ref o_packet, .ref o_known] : List Value).set 3 (.int v))) = zwM o o_tape o_frameAt o_field o_draft o_given o_low o_high o_packet o_known cB cI cL (zM_fault' x v) := rfl
theorem zp_M_fault {D : va_G} {cl : List vw_C} {H : Heap} {o o_tape o_frameAt o_field o_draft o_given o_low o_high o_packet o_known : Nat} {cB cI cL : ClassId} {x : zM} {v : Int32} (h : va_P D cl ((zwM o o_tape o_frameAt o_field o_draft o_given o_low o_high o_packet o_known cB cI cL x).set 0 (o, .inr (8, ([.int (zM_thrown x), .ref o_tape, .int (zM_size x), .int (zM_fault x), .int (zM_faultAt x), .int (zM_frames x), .ref o_frameAt, .int (zM_framesEnd x), .ref o_field, .int (zM_dataAt x), .int (zM_dataSize x), .int (zM_secretAt x), .int (zM_ranges x), .int (zM_rangesAt x), .int (zM_at x), .int (zM_over x), .int (zM_end x), .ref o_draft, .ref o_given, .int (zM_gives x), .ref o_low, .ref o_high, .int (zM_spans x), .int (zM_packets x), .ref o_packet, .ref o_known] : List Value).set 3 (.int v)))) H) : va_P D cl (zwM o o_tape o_frameAt o_field o_draft o_given o_low o_high o_packet o_known cB cI cL (zM_fault' x v)) H := zq_M_fault ▸ h
theorem zd_M_fault {A : Nat → Prop} {o o_tape o_frameAt o_field o_draft o_given o_low o_high o_packet o_known : Nat} {cB cI cL : ClassId} {x : zM} {v : Int32} (h : va_D A ((zwM o o_tape o_frameAt o_field o_draft o_given o_low o_high o_packet o_known cB cI cL x).set 0 (o, .inr (8, ([.int (zM_thrown x), .ref o_tape, .int (zM_size x), .int (zM_fault x), .int (zM_faultAt x), .int (zM_frames x), .ref o_frameAt, .int (zM_framesEnd x), .ref o_field, .int (zM_dataAt x), .int (zM_dataSize x), .int (zM_secretAt x), .int (zM_ranges x), .int (zM_rangesAt x), .int (zM_at x), .int (zM_over x), .int (zM_end x), .ref o_draft, .ref o_given, .int (zM_gives x), .ref o_low, .ref o_high, .int (zM_spans x), .int (zM_packets x), .ref o_packet, .ref o_known] : List Value).set 3 (.int v))))) : va_D A (zwM o o_tape o_frameAt o_field o_draft o_given o_low o_high o_packet o_known cB cI cL (zM_fault' x v)) := zq_M_fault ▸ h
theorem zq_M_faultAt {o o_tape o_frameAt o_field o_draft o_given o_low o_high o_packet o_known : Nat} {cB cI cL : ClassId} {x : zM} {v : Int32} : (zwM o o_tape o_frameAt o_field o_draft o_given o_low o_high o_packet o_known cB cI cL x).set 0 (o, .inr (8, ([.int (zM_thrown x), .ref o_tape, .int (zM_size x), .int (zM_fault x), .int (zM_faultAt x), .int (zM_frames x), .ref o_frameAt, .int (zM_framesEnd x), .ref o_field, .int (zM_dataAt x), .int (zM_dataSize x), .int (zM_secretAt x), .int (zM_ranges x), .int (zM_rangesAt x), .int (zM_at x), .int (zM_over x), .int (zM_end x), .ref o_draft, .ref o_given, .int (zM_gives x), .ref o_low, .ref o_high, .int (zM_spans x), .int (zM_packets x), .ref o_packet, .ref o_known] : List Value).set 4 (.int v))) = zwM o o_tape o_frameAt o_field o_draft o_given o_low o_high o_packet o_known cB cI cL (zM_faultAt' x v) := rfl
theorem zp_M_faultAt {D : va_G} {cl : List vw_C} {H : Heap} {o o_tape o_frameAt o_field o_draft o_given o_low o_high o_packet o_known : Nat} {cB cI cL : ClassId} {x : zM} {v : Int32} (h : va_P D cl ((zwM o o_tape o_frameAt o_field o_draft o_given o_low o_high o_packet o_known cB cI cL x).set 0 (o, .inr (8, ([.int (zM_thrown x), .ref o_tape, .int (zM_size x), .int (zM_fault x), .int (zM_faultAt x), .int (zM_frames x), .ref o_frameAt, .int (zM_framesEnd x), .ref o_field, .int (zM_dataAt x), .int (zM_dataSize x), .int (zM_secretAt x), .int (zM_ranges x), .int (zM_rangesAt x), .int (zM_at x), .int (zM_over x), .int (zM_end x), .ref o_draft, .ref o_given, .int (zM_gives x), .ref o_low, .ref o_high, .int (zM_spans x), .int (zM_packets x), .ref o_packet, .ref o_known] : List Value).set 4 (.int v)))) H) : va_P D cl (zwM o o_tape o_frameAt o_field o_draft o_given o_low o_high o_packet o_known cB cI cL (zM_faultAt' x v)) H := zq_M_faultAt ▸ h
theorem zd_M_faultAt {A : Nat → Prop} {o o_tape o_frameAt o_field o_draft o_given o_low o_high o_packet o_known : Nat} {cB cI cL : ClassId} {x : zM} {v : Int32} (h : va_D A ((zwM o o_tape o_frameAt o_field o_draft o_given o_low o_high o_packet o_known cB cI cL x).set 0 (o, .inr (8, ([.int (zM_thrown x), .ref o_tape, .int (zM_size x), .int (zM_fault x), .int (zM_faultAt x), .int (zM_frames x), .ref o_frameAt, .int (zM_framesEnd x), .ref o_field, .int (zM_dataAt x), .int (zM_dataSize x), .int (zM_secretAt x), .int (zM_ranges x), .int (zM_rangesAt x), .int (zM_at x), .int (zM_over x), .int (zM_end x), .ref o_draft, .ref o_given, .int (zM_gives x), .ref o_low, .ref o_high, .int (zM_spans x), .int (zM_packets x), .ref o_packet, .ref o_known] : List Value).set 4 (.int v))))) : va_D A (zwM o o_tape o_frameAt o_field o_draft o_given o_low o_high o_packet o_known cB cI cL (zM_faultAt' x v)) := zq_M_faultAt ▸ h
theorem zq_M_frames {o o_tape o_frameAt o_field o_draft o_given o_low o_high o_packet o_known : Nat} {cB cI cL : ClassId} {x : zM} {v : Int32} : (zwM o o_tape o_frameAt o_field o_draft o_given o_low o_high o_packet o_known cB cI cL x).set 0 (o, .inr (8, ([.int (zM_thrown x), .ref o_tape, .int (zM_size x), .int (zM_fault x), .int (zM_faultAt x), .int (zM_frames x), .ref o_frameAt, .int (zM_framesEnd x), .ref o_field, .int (zM_dataAt x), .int (zM_dataSize x), .int (zM_secretAt x), .int (zM_ranges x), .int (zM_rangesAt x), .int (zM_at x), .int (zM_over x), .int (zM_end x), .ref o_draft, .ref o_given, .int (zM_gives x), .ref o_low, .ref o_high, .int (zM_spans x), .int (zM_packets x), .ref o_packet, .ref o_known] : List Value).set 5 (.int v))) = zwM o o_tape o_frameAt o_field o_draft o_given o_low o_high o_packet o_known cB cI cL (zM_frames' x v) := rfl
theorem zp_M_frames {D : va_G} {cl : List vw_C} {H : Heap} {o o_tape o_frameAt o_field o_draft o_given o_low o_high o_packet o_known : Nat} {cB cI cL : ClassId} {x : zM} {v : Int32} (h : va_P D cl ((zwM o o_tape o_frameAt o_field o_draft o_given o_low o_high o_packet o_known cB cI cL x).set 0 (o, .inr (8, ([.int (zM_thrown x), .ref o_tape, .int (zM_size x), .int (zM_fault x), .int (zM_faultAt x), .int (zM_frames x), .ref o_frameAt, .int (zM_framesEnd x), .ref o_field, .int (zM_dataAt x), .int (zM_dataSize x), .int (zM_secretAt x), .int (zM_ranges x), .int (zM_rangesAt x), .int (zM_at x), .int (zM_over x), .int (zM_end x), .ref o_draft, .ref o_given, .int (zM_gives x), .ref o_low, .ref o_high, .int (zM_spans x), .int (zM_packets x), .ref o_packet, .ref o_known] : List Value).set 5 (.int v)))) H) : va_P D cl (zwM o o_tape o_frameAt o_field o_draft o_given o_low o_high o_packet o_known cB cI cL (zM_frames' x v)) H := zq_M_frames ▸ h
theorem zd_M_frames {A : Nat → Prop} {o o_tape o_frameAt o_field o_draft o_given o_low o_high o_packet o_known : Nat} {cB cI cL : ClassId} {x : zM} {v : Int32} (h : va_D A ((zwM o o_tape o_frameAt o_field o_draft o_given o_low o_high o_packet o_known cB cI cL x).set 0 (o, .inr (8, ([.int (zM_thrown x), .ref o_tape, .int (zM_size x), .int (zM_fault x), .int (zM_faultAt x), .int (zM_frames x), .ref o_frameAt, .int (zM_framesEnd x), .ref o_field, .int (zM_dataAt x), .int (zM_dataSize x), .int (zM_secretAt x), .int (zM_ranges x), .int (zM_rangesAt x), .int (zM_at x), .int (zM_over x), .int (zM_end x), .ref o_draft, .ref o_given, .int (zM_gives x), .ref o_low, .ref o_high, .int (zM_spans x), .int (zM_packets x), .ref o_packet, .ref o_known] : List Value).set 5 (.int v))))) : va_D A (zwM o o_tape o_frameAt o_field o_draft o_given o_low o_high o_packet o_known cB cI cL (zM_frames' x v)) := zq_M_frames ▸ h
theorem zq_M_frameAt {o o_tape o_frameAt o_field o_draft o_given o_low o_high o_packet o_known : Nat} {cB cI cL : ClassId} {x : zM} {v : (Nat → Int32)} : (zwM o o_tape o_frameAt o_field o_draft o_given o_low o_high o_packet o_known cB cI cL x).set 2 (o_frameAt, .inl (cI, 65536, .inl v)) = zwM o o_tape o_frameAt o_field o_draft o_given o_low o_high o_packet o_known cB cI cL (zM_frameAt' x v) := rfl
theorem zp_M_frameAt {D : va_G} {cl : List vw_C} {H : Heap} {o o_tape o_frameAt o_field o_draft o_given o_low o_high o_packet o_known : Nat} {cB cI cL : ClassId} {x : zM} {v : (Nat → Int32)} (h : va_P D cl ((zwM o o_tape o_frameAt o_field o_draft o_given o_low o_high o_packet o_known cB cI cL x).set 2 (o_frameAt, .inl (cI, 65536, .inl v))) H) : va_P D cl (zwM o o_tape o_frameAt o_field o_draft o_given o_low o_high o_packet o_known cB cI cL (zM_frameAt' x v)) H := zq_M_frameAt ▸ h
theorem zd_M_frameAt {A : Nat → Prop} {o o_tape o_frameAt o_field o_draft o_given o_low o_high o_packet o_known : Nat} {cB cI cL : ClassId} {x : zM} {v : (Nat → Int32)} (h : va_D A ((zwM o o_tape o_frameAt o_field o_draft o_given o_low o_high o_packet o_known cB cI cL x).set 2 (o_frameAt, .inl (cI, 65536, .inl v)))) : va_D A (zwM o o_tape o_frameAt o_field o_draft o_given o_low o_high o_packet o_known cB cI cL (zM_frameAt' x v)) := zq_M_frameAt ▸ h
theorem zq_M_framesEnd {o o_tape o_frameAt o_field o_draft o_given o_low o_high o_packet o_known : Nat} {cB cI cL : ClassId} {x : zM} {v : Int32} : (zwM o o_tape o_frameAt o_field o_draft o_given o_low o_high o_packet o_known cB cI cL x).set 0 (o, .inr (8, ([.int (zM_thrown x), .ref o_tape, .int (zM_size x), .int (zM_fault x), .int (zM_faultAt x), .int (zM_frames x), .ref o_frameAt, .int (zM_framesEnd x), .ref o_field, .int (zM_dataAt x), .int (zM_dataSize x), .int (zM_secretAt x), .int (zM_ranges x), .int (zM_rangesAt x), .int (zM_at x), .int (zM_over x), .int (zM_end x), .ref o_draft, .ref o_given, .int (zM_gives x), .ref o_low, .ref o_high, .int (zM_spans x), .int (zM_packets x), .ref o_packet, .ref o_known] : List Value).set 7 (.int v))) = zwM o o_tape o_frameAt o_field o_draft o_given o_low o_high o_packet o_known cB cI cL (zM_framesEnd' x v) := rfl
theorem zp_M_framesEnd {D : va_G} {cl : List vw_C} {H : Heap} {o o_tape o_frameAt o_field o_draft o_given o_low o_high o_packet o_known : Nat} {cB cI cL : ClassId} {x : zM} {v : Int32} (h : va_P D cl ((zwM o o_tape o_frameAt o_field o_draft o_given o_low o_high o_packet o_known cB cI cL x).set 0 (o, .inr (8, ([.int (zM_thrown x), .ref o_tape, .int (zM_size x), .int (zM_fault x), .int (zM_faultAt x), .int (zM_frames x), .ref o_frameAt, .int (zM_framesEnd x), .ref o_field, .int (zM_dataAt x), .int (zM_dataSize x), .int (zM_secretAt x), .int (zM_ranges x), .int (zM_rangesAt x), .int (zM_at x), .int (zM_over x), .int (zM_end x), .ref o_draft, .ref o_given, .int (zM_gives x), .ref o_low, .ref o_high, .int (zM_spans x), .int (zM_packets x), .ref o_packet, .ref o_known] : List Value).set 7 (.int v)))) H) : va_P D cl (zwM o o_tape o_frameAt o_field o_draft o_given o_low o_high o_packet o_known cB cI cL (zM_framesEnd' x v)) H := zq_M_framesEnd ▸ h
theorem zd_M_framesEnd {A : Nat → Prop} {o o_tape o_frameAt o_field o_draft o_given o_low o_high o_packet o_known : Nat} {cB cI cL : ClassId} {x : zM} {v : Int32} (h : va_D A ((zwM o o_tape o_frameAt o_field o_draft o_given o_low o_high o_packet o_known cB cI cL x).set 0 (o, .inr (8, ([.int (zM_thrown x), .ref o_tape, .int (zM_size x), .int (zM_fault x), .int (zM_faultAt x), .int (zM_frames x), .ref o_frameAt, .int (zM_framesEnd x), .ref o_field, .int (zM_dataAt x), .int (zM_dataSize x), .int (zM_secretAt x), .int (zM_ranges x), .int (zM_rangesAt x), .int (zM_at x), .int (zM_over x), .int (zM_end x), .ref o_draft, .ref o_given, .int (zM_gives x), .ref o_low, .ref o_high, .int (zM_spans x), .int (zM_packets x), .ref o_packet, .ref o_known] : List Value).set 7 (.int v))))) : va_D A (zwM o o_tape o_frameAt o_field o_draft o_given o_low o_high o_packet o_known cB cI cL (zM_framesEnd' x v)) := zq_M_framesEnd ▸ h
theorem zq_M_field {o o_tape o_frameAt o_field o_draft o_given o_low o_high o_packet o_known : Nat} {cB cI cL : ClassId} {x : zM} {v : (Nat → Int64)} : (zwM o o_tape o_frameAt o_field o_draft o_given o_low o_high o_packet o_known cB cI cL x).set 3 (o_field, .inl (cL, 12, .inr (.inl v))) = zwM o o_tape o_frameAt o_field o_draft o_given o_low o_high o_packet o_known cB cI cL (zM_field' x v) := rfl
theorem zp_M_field {D : va_G} {cl : List vw_C} {H : Heap} {o o_tape o_frameAt o_field o_draft o_given o_low o_high o_packet o_known : Nat} {cB cI cL : ClassId} {x : zM} {v : (Nat → Int64)} (h : va_P D cl ((zwM o o_tape o_frameAt o_field o_draft o_given o_low o_high o_packet o_known cB cI cL x).set 3 (o_field, .inl (cL, 12, .inr (.inl v)))) H) : va_P D cl (zwM o o_tape o_frameAt o_field o_draft o_given o_low o_high o_packet o_known cB cI cL (zM_field' x v)) H := zq_M_field ▸ h
theorem zd_M_field {A : Nat → Prop} {o o_tape o_frameAt o_field o_draft o_given o_low o_high o_packet o_known : Nat} {cB cI cL : ClassId} {x : zM} {v : (Nat → Int64)} (h : va_D A ((zwM o o_tape o_frameAt o_field o_draft o_given o_low o_high o_packet o_known cB cI cL x).set 3 (o_field, .inl (cL, 12, .inr (.inl v))))) : va_D A (zwM o o_tape o_frameAt o_field o_draft o_given o_low o_high o_packet o_known cB cI cL (zM_field' x v)) := zq_M_field ▸ h
theorem zq_M_dataAt {o o_tape o_frameAt o_field o_draft o_given o_low o_high o_packet o_known : Nat} {cB cI cL : ClassId} {x : zM} {v : Int32} : (zwM o o_tape o_frameAt o_field o_draft o_given o_low o_high o_packet o_known cB cI cL x).set 0 (o, .inr (8, ([.int (zM_thrown x), .ref o_tape, .int (zM_size x), .int (zM_fault x), .int (zM_faultAt x), .int (zM_frames x), .ref o_frameAt, .int (zM_framesEnd x), .ref o_field, .int (zM_dataAt x), .int (zM_dataSize x), .int (zM_secretAt x), .int (zM_ranges x), .int (zM_rangesAt x), .int (zM_at x), .int (zM_over x), .int (zM_end x), .ref o_draft, .ref o_given, .int (zM_gives x), .ref o_low, .ref o_high, .int (zM_spans x), .int (zM_packets x), .ref o_packet, .ref o_known] : List Value).set 9 (.int v))) = zwM o o_tape o_frameAt o_field o_draft o_given o_low o_high o_packet o_known cB cI cL (zM_dataAt' x v) := rfl
theorem zp_M_dataAt {D : va_G} {cl : List vw_C} {H : Heap} {o o_tape o_frameAt o_field o_draft o_given o_low o_high o_packet o_known : Nat} {cB cI cL : ClassId} {x : zM} {v : Int32} (h : va_P D cl ((zwM o o_tape o_frameAt o_field o_draft o_given o_low o_high o_packet o_known cB cI cL x).set 0 (o, .inr (8, ([.int (zM_thrown x), .ref o_tape, .int (zM_size x), .int (zM_fault x), .int (zM_faultAt x), .int (zM_frames x), .ref o_frameAt, .int (zM_framesEnd x), .ref o_field, .int (zM_dataAt x), .int (zM_dataSize x), .int (zM_secretAt x), .int (zM_ranges x), .int (zM_rangesAt x), .int (zM_at x), .int (zM_over x), .int (zM_end x), .ref o_draft, .ref o_given, .int (zM_gives x), .ref o_low, .ref o_high, .int (zM_spans x), .int (zM_packets x), .ref o_packet, .ref o_known] : List Value).set 9 (.int v)))) H) : va_P D cl (zwM o o_tape o_frameAt o_field o_draft o_given o_low o_high o_packet o_known cB cI cL (zM_dataAt' x v)) H := zq_M_dataAt ▸ h
theorem zd_M_dataAt {A : Nat → Prop} {o o_tape o_frameAt o_field o_draft o_given o_low o_high o_packet o_known : Nat} {cB cI cL : ClassId} {x : zM} {v : Int32} (h : va_D A ((zwM o o_tape o_frameAt o_field o_draft o_given o_low o_high o_packet o_known cB cI cL x).set 0 (o, .inr (8, ([.int (zM_thrown x), .ref o_tape, .int (zM_size x), .int (zM_fault x), .int (zM_faultAt x), .int (zM_frames x), .ref o_frameAt, .int (zM_framesEnd x), .ref o_field, .int (zM_dataAt x), .int (zM_dataSize x), .int (zM_secretAt x), .int (zM_ranges x), .int (zM_rangesAt x), .int (zM_at x), .int (zM_over x), .int (zM_end x), .ref o_draft, .ref o_given, .int (zM_gives x), .ref o_low, .ref o_high, .int (zM_spans x), .int (zM_packets x), .ref o_packet, .ref o_known] : List Value).set 9 (.int v))))) : va_D A (zwM o o_tape o_frameAt o_field o_draft o_given o_low o_high o_packet o_known cB cI cL (zM_dataAt' x v)) := zq_M_dataAt ▸ h
theorem zq_M_dataSize {o o_tape o_frameAt o_field o_draft o_given o_low o_high o_packet o_known : Nat} {cB cI cL : ClassId} {x : zM} {v : Int32} : (zwM o o_tape o_frameAt o_field o_draft o_given o_low o_high o_packet o_known cB cI cL x).set 0 (o, .inr (8, ([.int (zM_thrown x), .ref o_tape, .int (zM_size x), .int (zM_fault x), .int (zM_faultAt x), .int (zM_frames x), .ref o_frameAt, .int (zM_framesEnd x), .ref o_field, .int (zM_dataAt x), .int (zM_dataSize x), .int (zM_secretAt x), .int (zM_ranges x), .int (zM_rangesAt x), .int (zM_at x), .int (zM_over x), .int (zM_end x), .ref o_draft, .ref o_given, .int (zM_gives x), .ref o_low, .ref o_high, .int (zM_spans x), .int (zM_packets x), .ref o_packet, .ref o_known] : List Value).set 10 (.int v))) = zwM o o_tape o_frameAt o_field o_draft o_given o_low o_high o_packet o_known cB cI cL (zM_dataSize' x v) := rfl
theorem zp_M_dataSize {D : va_G} {cl : List vw_C} {H : Heap} {o o_tape o_frameAt o_field o_draft o_given o_low o_high o_packet o_known : Nat} {cB cI cL : ClassId} {x : zM} {v : Int32} (h : va_P D cl ((zwM o o_tape o_frameAt o_field o_draft o_given o_low o_high o_packet o_known cB cI cL x).set 0 (o, .inr (8, ([.int (zM_thrown x), .ref o_tape, .int (zM_size x), .int (zM_fault x), .int (zM_faultAt x), .int (zM_frames x), .ref o_frameAt, .int (zM_framesEnd x), .ref o_field, .int (zM_dataAt x), .int (zM_dataSize x), .int (zM_secretAt x), .int (zM_ranges x), .int (zM_rangesAt x), .int (zM_at x), .int (zM_over x), .int (zM_end x), .ref o_draft, .ref o_given, .int (zM_gives x), .ref o_low, .ref o_high, .int (zM_spans x), .int (zM_packets x), .ref o_packet, .ref o_known] : List Value).set 10 (.int v)))) H) : va_P D cl (zwM o o_tape o_frameAt o_field o_draft o_given o_low o_high o_packet o_known cB cI cL (zM_dataSize' x v)) H := zq_M_dataSize ▸ h
theorem zd_M_dataSize {A : Nat → Prop} {o o_tape o_frameAt o_field o_draft o_given o_low o_high o_packet o_known : Nat} {cB cI cL : ClassId} {x : zM} {v : Int32} (h : va_D A ((zwM o o_tape o_frameAt o_field o_draft o_given o_low o_high o_packet o_known cB cI cL x).set 0 (o, .inr (8, ([.int (zM_thrown x), .ref o_tape, .int (zM_size x), .int (zM_fault x), .int (zM_faultAt x), .int (zM_frames x), .ref o_frameAt, .int (zM_framesEnd x), .ref o_field, .int (zM_dataAt x), .int (zM_dataSize x), .int (zM_secretAt x), .int (zM_ranges x), .int (zM_rangesAt x), .int (zM_at x), .int (zM_over x), .int (zM_end x), .ref o_draft, .ref o_given, .int (zM_gives x), .ref o_low, .ref o_high, .int (zM_spans x), .int (zM_packets x), .ref o_packet, .ref o_known] : List Value).set 10 (.int v))))) : va_D A (zwM o o_tape o_frameAt o_field o_draft o_given o_low o_high o_packet o_known cB cI cL (zM_dataSize' x v)) := zq_M_dataSize ▸ h
theorem zq_M_secretAt {o o_tape o_frameAt o_field o_draft o_given o_low o_high o_packet o_known : Nat} {cB cI cL : ClassId} {x : zM} {v : Int32} : (zwM o o_tape o_frameAt o_field o_draft o_given o_low o_high o_packet o_known cB cI cL x).set 0 (o, .inr (8, ([.int (zM_thrown x), .ref o_tape, .int (zM_size x), .int (zM_fault x), .int (zM_faultAt x), .int (zM_frames x), .ref o_frameAt, .int (zM_framesEnd x), .ref o_field, .int (zM_dataAt x), .int (zM_dataSize x), .int (zM_secretAt x), .int (zM_ranges x), .int (zM_rangesAt x), .int (zM_at x), .int (zM_over x), .int (zM_end x), .ref o_draft, .ref o_given, .int (zM_gives x), .ref o_low, .ref o_high, .int (zM_spans x), .int (zM_packets x), .ref o_packet, .ref o_known] : List Value).set 11 (.int v))) = zwM o o_tape o_frameAt o_field o_draft o_given o_low o_high o_packet o_known cB cI cL (zM_secretAt' x v) := rfl
theorem zp_M_secretAt {D : va_G} {cl : List vw_C} {H : Heap} {o o_tape o_frameAt o_field o_draft o_given o_low o_high o_packet o_known : Nat} {cB cI cL : ClassId} {x : zM} {v : Int32} (h : va_P D cl ((zwM o o_tape o_frameAt o_field o_draft o_given o_low o_high o_packet o_known cB cI cL x).set 0 (o, .inr (8, ([.int (zM_thrown x), .ref o_tape, .int (zM_size x), .int (zM_fault x), .int (zM_faultAt x), .int (zM_frames x), .ref o_frameAt, .int (zM_framesEnd x), .ref o_field, .int (zM_dataAt x), .int (zM_dataSize x), .int (zM_secretAt x), .int (zM_ranges x), .int (zM_rangesAt x), .int (zM_at x), .int (zM_over x), .int (zM_end x), .ref o_draft, .ref o_given, .int (zM_gives x), .ref o_low, .ref o_high, .int (zM_spans x), .int (zM_packets x), .ref o_packet, .ref o_known] : List Value).set 11 (.int v)))) H) : va_P D cl (zwM o o_tape o_frameAt o_field o_draft o_given o_low o_high o_packet o_known cB cI cL (zM_secretAt' x v)) H := zq_M_secretAt ▸ h
theorem zd_M_secretAt {A : Nat → Prop} {o o_tape o_frameAt o_field o_draft o_given o_low o_high o_packet o_known : Nat} {cB cI cL : ClassId} {x : zM} {v : Int32} (h : va_D A ((zwM o o_tape o_frameAt o_field o_draft o_given o_low o_high o_packet o_known cB cI cL x).set 0 (o, .inr (8, ([.int (zM_thrown x), .ref o_tape, .int (zM_size x), .int (zM_fault x), .int (zM_faultAt x), .int (zM_frames x), .ref o_frameAt, .int (zM_framesEnd x), .ref o_field, .int (zM_dataAt x), .int (zM_dataSize x), .int (zM_secretAt x), .int (zM_ranges x), .int (zM_rangesAt x), .int (zM_at x), .int (zM_over x), .int (zM_end x), .ref o_draft, .ref o_given, .int (zM_gives x), .ref o_low, .ref o_high, .int (zM_spans x), .int (zM_packets x), .ref o_packet, .ref o_known] : List Value).set 11 (.int v))))) : va_D A (zwM o o_tape o_frameAt o_field o_draft o_given o_low o_high o_packet o_known cB cI cL (zM_secretAt' x v)) := zq_M_secretAt ▸ h
theorem zq_M_ranges {o o_tape o_frameAt o_field o_draft o_given o_low o_high o_packet o_known : Nat} {cB cI cL : ClassId} {x : zM} {v : Int32} : (zwM o o_tape o_frameAt o_field o_draft o_given o_low o_high o_packet o_known cB cI cL x).set 0 (o, .inr (8, ([.int (zM_thrown x), .ref o_tape, .int (zM_size x), .int (zM_fault x), .int (zM_faultAt x), .int (zM_frames x), .ref o_frameAt, .int (zM_framesEnd x), .ref o_field, .int (zM_dataAt x), .int (zM_dataSize x), .int (zM_secretAt x), .int (zM_ranges x), .int (zM_rangesAt x), .int (zM_at x), .int (zM_over x), .int (zM_end x), .ref o_draft, .ref o_given, .int (zM_gives x), .ref o_low, .ref o_high, .int (zM_spans x), .int (zM_packets x), .ref o_packet, .ref o_known] : List Value).set 12 (.int v))) = zwM o o_tape o_frameAt o_field o_draft o_given o_low o_high o_packet o_known cB cI cL (zM_ranges' x v) := rfl
theorem zp_M_ranges {D : va_G} {cl : List vw_C} {H : Heap} {o o_tape o_frameAt o_field o_draft o_given o_low o_high o_packet o_known : Nat} {cB cI cL : ClassId} {x : zM} {v : Int32} (h : va_P D cl ((zwM o o_tape o_frameAt o_field o_draft o_given o_low o_high o_packet o_known cB cI cL x).set 0 (o, .inr (8, ([.int (zM_thrown x), .ref o_tape, .int (zM_size x), .int (zM_fault x), .int (zM_faultAt x), .int (zM_frames x), .ref o_frameAt, .int (zM_framesEnd x), .ref o_field, .int (zM_dataAt x), .int (zM_dataSize x), .int (zM_secretAt x), .int (zM_ranges x), .int (zM_rangesAt x), .int (zM_at x), .int (zM_over x), .int (zM_end x), .ref o_draft, .ref o_given, .int (zM_gives x), .ref o_low, .ref o_high, .int (zM_spans x), .int (zM_packets x), .ref o_packet, .ref o_known] : List Value).set 12 (.int v)))) H) : va_P D cl (zwM o o_tape o_frameAt o_field o_draft o_given o_low o_high o_packet o_known cB cI cL (zM_ranges' x v)) H := zq_M_ranges ▸ h
theorem zd_M_ranges {A : Nat → Prop} {o o_tape o_frameAt o_field o_draft o_given o_low o_high o_packet o_known : Nat} {cB cI cL : ClassId} {x : zM} {v : Int32} (h : va_D A ((zwM o o_tape o_frameAt o_field o_draft o_given o_low o_high o_packet o_known cB cI cL x).set 0 (o, .inr (8, ([.int (zM_thrown x), .ref o_tape, .int (zM_size x), .int (zM_fault x), .int (zM_faultAt x), .int (zM_frames x), .ref o_frameAt, .int (zM_framesEnd x), .ref o_field, .int (zM_dataAt x), .int (zM_dataSize x), .int (zM_secretAt x), .int (zM_ranges x), .int (zM_rangesAt x), .int (zM_at x), .int (zM_over x), .int (zM_end x), .ref o_draft, .ref o_given, .int (zM_gives x), .ref o_low, .ref o_high, .int (zM_spans x), .int (zM_packets x), .ref o_packet, .ref o_known] : List Value).set 12 (.int v))))) : va_D A (zwM o o_tape o_frameAt o_field o_draft o_given o_low o_high o_packet o_known cB cI cL (zM_ranges' x v)) := zq_M_ranges ▸ h
theorem zq_M_rangesAt {o o_tape o_frameAt o_field o_draft o_given o_low o_high o_packet o_known : Nat} {cB cI cL : ClassId} {x : zM} {v : Int32} : (zwM o o_tape o_frameAt o_field o_draft o_given o_low o_high o_packet o_known cB cI cL x).set 0 (o, .inr (8, ([.int (zM_thrown x), .ref o_tape, .int (zM_size x), .int (zM_fault x), .int (zM_faultAt x), .int (zM_frames x), .ref o_frameAt, .int (zM_framesEnd x), .ref o_field, .int (zM_dataAt x), .int (zM_dataSize x), .int (zM_secretAt x), .int (zM_ranges x), .int (zM_rangesAt x), .int (zM_at x), .int (zM_over x), .int (zM_end x), .ref o_draft, .ref o_given, .int (zM_gives x), .ref o_low, .ref o_high, .int (zM_spans x), .int (zM_packets x), .ref o_packet, .ref o_known] : List Value).set 13 (.int v))) = zwM o o_tape o_frameAt o_field o_draft o_given o_low o_high o_packet o_known cB cI cL (zM_rangesAt' x v) := rfl
theorem zp_M_rangesAt {D : va_G} {cl : List vw_C} {H : Heap} {o o_tape o_frameAt o_field o_draft o_given o_low o_high o_packet o_known : Nat} {cB cI cL : ClassId} {x : zM} {v : Int32} (h : va_P D cl ((zwM o o_tape o_frameAt o_field o_draft o_given o_low o_high o_packet o_known cB cI cL x).set 0 (o, .inr (8, ([.int (zM_thrown x), .ref o_tape, .int (zM_size x), .int (zM_fault x), .int (zM_faultAt x), .int (zM_frames x), .ref o_frameAt, .int (zM_framesEnd x), .ref o_field, .int (zM_dataAt x), .int (zM_dataSize x), .int (zM_secretAt x), .int (zM_ranges x), .int (zM_rangesAt x), .int (zM_at x), .int (zM_over x), .int (zM_end x), .ref o_draft, .ref o_given, .int (zM_gives x), .ref o_low, .ref o_high, .int (zM_spans x), .int (zM_packets x), .ref o_packet, .ref o_known] : List Value).set 13 (.int v)))) H) : va_P D cl (zwM o o_tape o_frameAt o_field o_draft o_given o_low o_high o_packet o_known cB cI cL (zM_rangesAt' x v)) H := zq_M_rangesAt ▸ h
theorem zd_M_rangesAt {A : Nat → Prop} {o o_tape o_frameAt o_field o_draft o_given o_low o_high o_packet o_known : Nat} {cB cI cL : ClassId} {x : zM} {v : Int32} (h : va_D A ((zwM o o_tape o_frameAt o_field o_draft o_given o_low o_high o_packet o_known cB cI cL x).set 0 (o, .inr (8, ([.int (zM_thrown x), .ref o_tape, .int (zM_size x), .int (zM_fault x), .int (zM_faultAt x), .int (zM_frames x), .ref o_frameAt, .int (zM_framesEnd x), .ref o_field, .int (zM_dataAt x), .int (zM_dataSize x), .int (zM_secretAt x), .int (zM_ranges x), .int (zM_rangesAt x), .int (zM_at x), .int (zM_over x), .int (zM_end x), .ref o_draft, .ref o_given, .int (zM_gives x), .ref o_low, .ref o_high, .int (zM_spans x), .int (zM_packets x), .ref o_packet, .ref o_known] : List Value).set 13 (.int v))))) : va_D A (zwM o o_tape o_frameAt o_field o_draft o_given o_low o_high o_packet o_known cB cI cL (zM_rangesAt' x v)) := zq_M_rangesAt ▸ h
theorem zq_M_at {o o_tape o_frameAt o_field o_draft o_given o_low o_high o_packet o_known : Nat} {cB cI cL : ClassId} {x : zM} {v : Int32} : (zwM o o_tape o_frameAt o_field o_draft o_given o_low o_high o_packet o_known cB cI cL x).set 0 (o, .inr (8, ([.int (zM_thrown x), .ref o_tape, .int (zM_size x), .int (zM_fault x), .int (zM_faultAt x), .int (zM_frames x), .ref o_frameAt, .int (zM_framesEnd x), .ref o_field, .int (zM_dataAt x), .int (zM_dataSize x), .int (zM_secretAt x), .int (zM_ranges x), .int (zM_rangesAt x), .int (zM_at x), .int (zM_over x), .int (zM_end x), .ref o_draft, .ref o_given, .int (zM_gives x), .ref o_low, .ref o_high, .int (zM_spans x), .int (zM_packets x), .ref o_packet, .ref o_known] : List Value).set 14 (.int v))) = zwM o o_tape o_frameAt o_field o_draft o_given o_low o_high o_packet o_known cB cI cL (zM_at' x v) := rfl
theorem zp_M_at {D : va_G} {cl : List vw_C} {H : Heap} {o o_tape o_frameAt o_field o_draft o_given o_low o_high o_packet o_known : Nat} {cB cI cL : ClassId} {x : zM} {v : Int32} (h : va_P D cl ((zwM o o_tape o_frameAt o_field o_draft o_given o_low o_high o_packet o_known cB cI cL x).set 0 (o, .inr (8, ([.int (zM_thrown x), .ref o_tape, .int (zM_size x), .int (zM_fault x), .int (zM_faultAt x), .int (zM_frames x), .ref o_frameAt, .int (zM_framesEnd x), .ref o_field, .int (zM_dataAt x), .int (zM_dataSize x), .int (zM_secretAt x), .int (zM_ranges x), .int (zM_rangesAt x), .int (zM_at x), .int (zM_over x), .int (zM_end x), .ref o_draft, .ref o_given, .int (zM_gives x), .ref o_low, .ref o_high, .int (zM_spans x), .int (zM_packets x), .ref o_packet, .ref o_known] : List Value).set 14 (.int v)))) H) : va_P D cl (zwM o o_tape o_frameAt o_field o_draft o_given o_low o_high o_packet o_known cB cI cL (zM_at' x v)) H := zq_M_at ▸ h
theorem zd_M_at {A : Nat → Prop} {o o_tape o_frameAt o_field o_draft o_given o_low o_high o_packet o_known : Nat} {cB cI cL : ClassId} {x : zM} {v : Int32} (h : va_D A ((zwM o o_tape o_frameAt o_field o_draft o_given o_low o_high o_packet o_known cB cI cL x).set 0 (o, .inr (8, ([.int (zM_thrown x), .ref o_tape, .int (zM_size x), .int (zM_fault x), .int (zM_faultAt x), .int (zM_frames x), .ref o_frameAt, .int (zM_framesEnd x), .ref o_field, .int (zM_dataAt x), .int (zM_dataSize x), .int (zM_secretAt x), .int (zM_ranges x), .int (zM_rangesAt x), .int (zM_at x), .int (zM_over x), .int (zM_end x), .ref o_draft, .ref o_given, .int (zM_gives x), .ref o_low, .ref o_high, .int (zM_spans x), .int (zM_packets x), .ref o_packet, .ref o_known] : List Value).set 14 (.int v))))) : va_D A (zwM o o_tape o_frameAt o_field o_draft o_given o_low o_high o_packet o_known cB cI cL (zM_at' x v)) := zq_M_at ▸ h
theorem zq_M_over {o o_tape o_frameAt o_field o_draft o_given o_low o_high o_packet o_known : Nat} {cB cI cL : ClassId} {x : zM} {v : Int32} : (zwM o o_tape o_frameAt o_field o_draft o_given o_low o_high o_packet o_known cB cI cL x).set 0 (o, .inr (8, ([.int (zM_thrown x), .ref o_tape, .int (zM_size x), .int (zM_fault x), .int (zM_faultAt x), .int (zM_frames x), .ref o_frameAt, .int (zM_framesEnd x), .ref o_field, .int (zM_dataAt x), .int (zM_dataSize x), .int (zM_secretAt x), .int (zM_ranges x), .int (zM_rangesAt x), .int (zM_at x), .int (zM_over x), .int (zM_end x), .ref o_draft, .ref o_given, .int (zM_gives x), .ref o_low, .ref o_high, .int (zM_spans x), .int (zM_packets x), .ref o_packet, .ref o_known] : List Value).set 15 (.int v))) = zwM o o_tape o_frameAt o_field o_draft o_given o_low o_high o_packet o_known cB cI cL (zM_over' x v) := rfl
theorem zp_M_over {D : va_G} {cl : List vw_C} {H : Heap} {o o_tape o_frameAt o_field o_draft o_given o_low o_high o_packet o_known : Nat} {cB cI cL : ClassId} {x : zM} {v : Int32} (h : va_P D cl ((zwM o o_tape o_frameAt o_field o_draft o_given o_low o_high o_packet o_known cB cI cL x).set 0 (o, .inr (8, ([.int (zM_thrown x), .ref o_tape, .int (zM_size x), .int (zM_fault x), .int (zM_faultAt x), .int (zM_frames x), .ref o_frameAt, .int (zM_framesEnd x), .ref o_field, .int (zM_dataAt x), .int (zM_dataSize x), .int (zM_secretAt x), .int (zM_ranges x), .int (zM_rangesAt x), .int (zM_at x), .int (zM_over x), .int (zM_end x), .ref o_draft, .ref o_given, .int (zM_gives x), .ref o_low, .ref o_high, .int (zM_spans x), .int (zM_packets x), .ref o_packet, .ref o_known] : List Value).set 15 (.int v)))) H) : va_P D cl (zwM o o_tape o_frameAt o_field o_draft o_given o_low o_high o_packet o_known cB cI cL (zM_over' x v)) H := zq_M_over ▸ h
theorem zd_M_over {A : Nat → Prop} {o o_tape o_frameAt o_field o_draft o_given o_low o_high o_packet o_known : Nat} {cB cI cL : ClassId} {x : zM} {v : Int32} (h : va_D A ((zwM o o_tape o_frameAt o_field o_draft o_given o_low o_high o_packet o_known cB cI cL x).set 0 (o, .inr (8, ([.int (zM_thrown x), .ref o_tape, .int (zM_size x), .int (zM_fault x), .int (zM_faultAt x), .int (zM_frames x), .ref o_frameAt, .int (zM_framesEnd x), .ref o_field, .int (zM_dataAt x), .int (zM_dataSize x), .int (zM_secretAt x), .int (zM_ranges x), .int (zM_rangesAt x), .int (zM_at x), .int (zM_over x), .int (zM_end x), .ref o_draft, .ref o_given, .int (zM_gives x), .ref o_low, .ref o_high, .int (zM_spans x), .int (zM_packets x), .ref o_packet, .ref o_known] : List Value).set 15 (.int v))))) : va_D A (zwM o o_tape o_frameAt o_field o_draft o_given o_low o_high o_packet o_known cB cI cL (zM_over' x v)) := zq_M_over ▸ h
theorem zq_M_end {o o_tape o_frameAt o_field o_draft o_given o_low o_high o_packet o_known : Nat} {cB cI cL : ClassId} {x : zM} {v : Int32} : (zwM o o_tape o_frameAt o_field o_draft o_given o_low o_high o_packet o_known cB cI cL x).set 0 (o, .inr (8, ([.int (zM_thrown x), .ref o_tape, .int (zM_size x), .int (zM_fault x), .int (zM_faultAt x), .int (zM_frames x), .ref o_frameAt, .int (zM_framesEnd x), .ref o_field, .int (zM_dataAt x), .int (zM_dataSize x), .int (zM_secretAt x), .int (zM_ranges x), .int (zM_rangesAt x), .int (zM_at x), .int (zM_over x), .int (zM_end x), .ref o_draft, .ref o_given, .int (zM_gives x), .ref o_low, .ref o_high, .int (zM_spans x), .int (zM_packets x), .ref o_packet, .ref o_known] : List Value).set 16 (.int v))) = zwM o o_tape o_frameAt o_field o_draft o_given o_low o_high o_packet o_known cB cI cL (zM_end' x v) := rfl
theorem zp_M_end {D : va_G} {cl : List vw_C} {H : Heap} {o o_tape o_frameAt o_field o_draft o_given o_low o_high o_packet o_known : Nat} {cB cI cL : ClassId} {x : zM} {v : Int32} (h : va_P D cl ((zwM o o_tape o_frameAt o_field o_draft o_given o_low o_high o_packet o_known cB cI cL x).set 0 (o, .inr (8, ([.int (zM_thrown x), .ref o_tape, .int (zM_size x), .int (zM_fault x), .int (zM_faultAt x), .int (zM_frames x), .ref o_frameAt, .int (zM_framesEnd x), .ref o_field, .int (zM_dataAt x), .int (zM_dataSize x), .int (zM_secretAt x), .int (zM_ranges x), .int (zM_rangesAt x), .int (zM_at x), .int (zM_over x), .int (zM_end x), .ref o_draft, .ref o_given, .int (zM_gives x), .ref o_low, .ref o_high, .int (zM_spans x), .int (zM_packets x), .ref o_packet, .ref o_known] : List Value).set 16 (.int v)))) H) : va_P D cl (zwM o o_tape o_frameAt o_field o_draft o_given o_low o_high o_packet o_known cB cI cL (zM_end' x v)) H := zq_M_end ▸ h
theorem zd_M_end {A : Nat → Prop} {o o_tape o_frameAt o_field o_draft o_given o_low o_high o_packet o_known : Nat} {cB cI cL : ClassId} {x : zM} {v : Int32} (h : va_D A ((zwM o o_tape o_frameAt o_field o_draft o_given o_low o_high o_packet o_known cB cI cL x).set 0 (o, .inr (8, ([.int (zM_thrown x), .ref o_tape, .int (zM_size x), .int (zM_fault x), .int (zM_faultAt x), .int (zM_frames x), .ref o_frameAt, .int (zM_framesEnd x), .ref o_field, .int (zM_dataAt x), .int (zM_dataSize x), .int (zM_secretAt x), .int (zM_ranges x), .int (zM_rangesAt x), .int (zM_at x), .int (zM_over x), .int (zM_end x), .ref o_draft, .ref o_given, .int (zM_gives x), .ref o_low, .ref o_high, .int (zM_spans x), .int (zM_packets x), .ref o_packet, .ref o_known] : List Value).set 16 (.int v))))) : va_D A (zwM o o_tape o_frameAt o_field o_draft o_given o_low o_high o_packet o_known cB cI cL (zM_end' x v)) := zq_M_end ▸ h
theorem zq_M_draft {o o_tape o_frameAt o_field o_draft o_given o_low o_high o_packet o_known : Nat} {cB cI cL : ClassId} {x : zM} {v : (Nat → Int64)} : (zwM o o_tape o_frameAt o_field o_draft o_given o_low o_high o_packet o_known cB cI cL x).set 4 (o_draft, .inl (cL, 12, .inr (.inl v))) = zwM o o_tape o_frameAt o_field o_draft o_given o_low o_high o_packet o_known cB cI cL (zM_draft' x v) := rfl
theorem zp_M_draft {D : va_G} {cl : List vw_C} {H : Heap} {o o_tape o_frameAt o_field o_draft o_given o_low o_high o_packet o_known : Nat} {cB cI cL : ClassId} {x : zM} {v : (Nat → Int64)} (h : va_P D cl ((zwM o o_tape o_frameAt o_field o_draft o_given o_low o_high o_packet o_known cB cI cL x).set 4 (o_draft, .inl (cL, 12, .inr (.inl v)))) H) : va_P D cl (zwM o o_tape o_frameAt o_field o_draft o_given o_low o_high o_packet o_known cB cI cL (zM_draft' x v)) H := zq_M_draft ▸ h
theorem zd_M_draft {A : Nat → Prop} {o o_tape o_frameAt o_field o_draft o_given o_low o_high o_packet o_known : Nat} {cB cI cL : ClassId} {x : zM} {v : (Nat → Int64)} (h : va_D A ((zwM o o_tape o_frameAt o_field o_draft o_given o_low o_high o_packet o_known cB cI cL x).set 4 (o_draft, .inl (cL, 12, .inr (.inl v))))) : va_D A (zwM o o_tape o_frameAt o_field o_draft o_given o_low o_high o_packet o_known cB cI cL (zM_draft' x v)) := zq_M_draft ▸ h
theorem zq_M_given {o o_tape o_frameAt o_field o_draft o_given o_low o_high o_packet o_known : Nat} {cB cI cL : ClassId} {x : zM} {v : (Nat → Int32)} : (zwM o o_tape o_frameAt o_field o_draft o_given o_low o_high o_packet o_known cB cI cL x).set 5 (o_given, .inl (cB, 2000, .inl v)) = zwM o o_tape o_frameAt o_field o_draft o_given o_low o_high o_packet o_known cB cI cL (zM_given' x v) := rfl
theorem zp_M_given {D : va_G} {cl : List vw_C} {H : Heap} {o o_tape o_frameAt o_field o_draft o_given o_low o_high o_packet o_known : Nat} {cB cI cL : ClassId} {x : zM} {v : (Nat → Int32)} (h : va_P D cl ((zwM o o_tape o_frameAt o_field o_draft o_given o_low o_high o_packet o_known cB cI cL x).set 5 (o_given, .inl (cB, 2000, .inl v))) H) : va_P D cl (zwM o o_tape o_frameAt o_field o_draft o_given o_low o_high o_packet o_known cB cI cL (zM_given' x v)) H := zq_M_given ▸ h
theorem zd_M_given {A : Nat → Prop} {o o_tape o_frameAt o_field o_draft o_given o_low o_high o_packet o_known : Nat} {cB cI cL : ClassId} {x : zM} {v : (Nat → Int32)} (h : va_D A ((zwM o o_tape o_frameAt o_field o_draft o_given o_low o_high o_packet o_known cB cI cL x).set 5 (o_given, .inl (cB, 2000, .inl v)))) : va_D A (zwM o o_tape o_frameAt o_field o_draft o_given o_low o_high o_packet o_known cB cI cL (zM_given' x v)) := zq_M_given ▸ h
theorem zq_M_gives {o o_tape o_frameAt o_field o_draft o_given o_low o_high o_packet o_known : Nat} {cB cI cL : ClassId} {x : zM} {v : Int32} : (zwM o o_tape o_frameAt o_field o_draft o_given o_low o_high o_packet o_known cB cI cL x).set 0 (o, .inr (8, ([.int (zM_thrown x), .ref o_tape, .int (zM_size x), .int (zM_fault x), .int (zM_faultAt x), .int (zM_frames x), .ref o_frameAt, .int (zM_framesEnd x), .ref o_field, .int (zM_dataAt x), .int (zM_dataSize x), .int (zM_secretAt x), .int (zM_ranges x), .int (zM_rangesAt x), .int (zM_at x), .int (zM_over x), .int (zM_end x), .ref o_draft, .ref o_given, .int (zM_gives x), .ref o_low, .ref o_high, .int (zM_spans x), .int (zM_packets x), .ref o_packet, .ref o_known] : List Value).set 19 (.int v))) = zwM o o_tape o_frameAt o_field o_draft o_given o_low o_high o_packet o_known cB cI cL (zM_gives' x v) := rfl
theorem zp_M_gives {D : va_G} {cl : List vw_C} {H : Heap} {o o_tape o_frameAt o_field o_draft o_given o_low o_high o_packet o_known : Nat} {cB cI cL : ClassId} {x : zM} {v : Int32} (h : va_P D cl ((zwM o o_tape o_frameAt o_field o_draft o_given o_low o_high o_packet o_known cB cI cL x).set 0 (o, .inr (8, ([.int (zM_thrown x), .ref o_tape, .int (zM_size x), .int (zM_fault x), .int (zM_faultAt x), .int (zM_frames x), .ref o_frameAt, .int (zM_framesEnd x), .ref o_field, .int (zM_dataAt x), .int (zM_dataSize x), .int (zM_secretAt x), .int (zM_ranges x), .int (zM_rangesAt x), .int (zM_at x), .int (zM_over x), .int (zM_end x), .ref o_draft, .ref o_given, .int (zM_gives x), .ref o_low, .ref o_high, .int (zM_spans x), .int (zM_packets x), .ref o_packet, .ref o_known] : List Value).set 19 (.int v)))) H) : va_P D cl (zwM o o_tape o_frameAt o_field o_draft o_given o_low o_high o_packet o_known cB cI cL (zM_gives' x v)) H := zq_M_gives ▸ h
theorem zd_M_gives {A : Nat → Prop} {o o_tape o_frameAt o_field o_draft o_given o_low o_high o_packet o_known : Nat} {cB cI cL : ClassId} {x : zM} {v : Int32} (h : va_D A ((zwM o o_tape o_frameAt o_field o_draft o_given o_low o_high o_packet o_known cB cI cL x).set 0 (o, .inr (8, ([.int (zM_thrown x), .ref o_tape, .int (zM_size x), .int (zM_fault x), .int (zM_faultAt x), .int (zM_frames x), .ref o_frameAt, .int (zM_framesEnd x), .ref o_field, .int (zM_dataAt x), .int (zM_dataSize x), .int (zM_secretAt x), .int (zM_ranges x), .int (zM_rangesAt x), .int (zM_at x), .int (zM_over x), .int (zM_end x), .ref o_draft, .ref o_given, .int (zM_gives x), .ref o_low, .ref o_high, .int (zM_spans x), .int (zM_packets x), .ref o_packet, .ref o_known] : List Value).set 19 (.int v))))) : va_D A (zwM o o_tape o_frameAt o_field o_draft o_given o_low o_high o_packet o_known cB cI cL (zM_gives' x v)) := zq_M_gives ▸ h
theorem zq_M_low {o o_tape o_frameAt o_field o_draft o_given o_low o_high o_packet o_known : Nat} {cB cI cL : ClassId} {x : zM} {v : (Nat → Int64)} : (zwM o o_tape o_frameAt o_field o_draft o_given o_low o_high o_packet o_known cB cI cL x).set 6 (o_low, .inl (cL, 500, .inr (.inl v))) = zwM o o_tape o_frameAt o_field o_draft o_given o_low o_high o_packet o_known cB cI cL (zM_low' x v) := rfl
theorem zp_M_low {D : va_G} {cl : List vw_C} {H : Heap} {o o_tape o_frameAt o_field o_draft o_given o_low o_high o_packet o_known : Nat} {cB cI cL : ClassId} {x : zM} {v : (Nat → Int64)} (h : va_P D cl ((zwM o o_tape o_frameAt o_field o_draft o_given o_low o_high o_packet o_known cB cI cL x).set 6 (o_low, .inl (cL, 500, .inr (.inl v)))) H) : va_P D cl (zwM o o_tape o_frameAt o_field o_draft o_given o_low o_high o_packet o_known cB cI cL (zM_low' x v)) H := zq_M_low ▸ h
theorem zd_M_low {A : Nat → Prop} {o o_tape o_frameAt o_field o_draft o_given o_low o_high o_packet o_known : Nat} {cB cI cL : ClassId} {x : zM} {v : (Nat → Int64)} (h : va_D A ((zwM o o_tape o_frameAt o_field o_draft o_given o_low o_high o_packet o_known cB cI cL x).set 6 (o_low, .inl (cL, 500, .inr (.inl v))))) : va_D A (zwM o o_tape o_frameAt o_field o_draft o_given o_low o_high o_packet o_known cB cI cL (zM_low' x v)) := zq_M_low ▸ h
theorem zq_M_high {o o_tape o_frameAt o_field o_draft o_given o_low o_high o_packet o_known : Nat} {cB cI cL : ClassId} {x : zM} {v : (Nat → Int64)} : (zwM o o_tape o_frameAt o_field o_draft o_given o_low o_high o_packet o_known cB cI cL x).set 7 (o_high, .inl (cL, 500, .inr (.inl v))) = zwM o o_tape o_frameAt o_field o_draft o_given o_low o_high o_packet o_known cB cI cL (zM_high' x v) := rfl
theorem zp_M_high {D : va_G} {cl : List vw_C} {H : Heap} {o o_tape o_frameAt o_field o_draft o_given o_low o_high o_packet o_known : Nat} {cB cI cL : ClassId} {x : zM} {v : (Nat → Int64)} (h : va_P D cl ((zwM o o_tape o_frameAt o_field o_draft o_given o_low o_high o_packet o_known cB cI cL x).set 7 (o_high, .inl (cL, 500, .inr (.inl v)))) H) : va_P D cl (zwM o o_tape o_frameAt o_field o_draft o_given o_low o_high o_packet o_known cB cI cL (zM_high' x v)) H := zq_M_high ▸ h
theorem zd_M_high {A : Nat → Prop} {o o_tape o_frameAt o_field o_draft o_given o_low o_high o_packet o_known : Nat} {cB cI cL : ClassId} {x : zM} {v : (Nat → Int64)} (h : va_D A ((zwM o o_tape o_frameAt o_field o_draft o_given o_low o_high o_packet o_known cB cI cL x).set 7 (o_high, .inl (cL, 500, .inr (.inl v))))) : va_D A (zwM o o_tape o_frameAt o_field o_draft o_given o_low o_high o_packet o_known cB cI cL (zM_high' x v)) := zq_M_high ▸ h
theorem zq_M_spans {o o_tape o_frameAt o_field o_draft o_given o_low o_high o_packet o_known : Nat} {cB cI cL : ClassId} {x : zM} {v : Int32} : (zwM o o_tape o_frameAt o_field o_draft o_given o_low o_high o_packet o_known cB cI cL x).set 0 (o, .inr (8, ([.int (zM_thrown x), .ref o_tape, .int (zM_size x), .int (zM_fault x), .int (zM_faultAt x), .int (zM_frames x), .ref o_frameAt, .int (zM_framesEnd x), .ref o_field, .int (zM_dataAt x), .int (zM_dataSize x), .int (zM_secretAt x), .int (zM_ranges x), .int (zM_rangesAt x), .int (zM_at x), .int (zM_over x), .int (zM_end x), .ref o_draft, .ref o_given, .int (zM_gives x), .ref o_low, .ref o_high, .int (zM_spans x), .int (zM_packets x), .ref o_packet, .ref o_known] : List Value).set 22 (.int v))) = zwM o o_tape o_frameAt o_field o_draft o_given o_low o_high o_packet o_known cB cI cL (zM_spans' x v) := rfl
theorem zp_M_spans {D : va_G} {cl : List vw_C} {H : Heap} {o o_tape o_frameAt o_field o_draft o_given o_low o_high o_packet o_known : Nat} {cB cI cL : ClassId} {x : zM} {v : Int32} (h : va_P D cl ((zwM o o_tape o_frameAt o_field o_draft o_given o_low o_high o_packet o_known cB cI cL x).set 0 (o, .inr (8, ([.int (zM_thrown x), .ref o_tape, .int (zM_size x), .int (zM_fault x), .int (zM_faultAt x), .int (zM_frames x), .ref o_frameAt, .int (zM_framesEnd x), .ref o_field, .int (zM_dataAt x), .int (zM_dataSize x), .int (zM_secretAt x), .int (zM_ranges x), .int (zM_rangesAt x), .int (zM_at x), .int (zM_over x), .int (zM_end x), .ref o_draft, .ref o_given, .int (zM_gives x), .ref o_low, .ref o_high, .int (zM_spans x), .int (zM_packets x), .ref o_packet, .ref o_known] : List Value).set 22 (.int v)))) H) : va_P D cl (zwM o o_tape o_frameAt o_field o_draft o_given o_low o_high o_packet o_known cB cI cL (zM_spans' x v)) H := zq_M_spans ▸ h
theorem zd_M_spans {A : Nat → Prop} {o o_tape o_frameAt o_field o_draft o_given o_low o_high o_packet o_known : Nat} {cB cI cL : ClassId} {x : zM} {v : Int32} (h : va_D A ((zwM o o_tape o_frameAt o_field o_draft o_given o_low o_high o_packet o_known cB cI cL x).set 0 (o, .inr (8, ([.int (zM_thrown x), .ref o_tape, .int (zM_size x), .int (zM_fault x), .int (zM_faultAt x), .int (zM_frames x), .ref o_frameAt, .int (zM_framesEnd x), .ref o_field, .int (zM_dataAt x), .int (zM_dataSize x), .int (zM_secretAt x), .int (zM_ranges x), .int (zM_rangesAt x), .int (zM_at x), .int (zM_over x), .int (zM_end x), .ref o_draft, .ref o_given, .int (zM_gives x), .ref o_low, .ref o_high, .int (zM_spans x), .int (zM_packets x), .ref o_packet, .ref o_known] : List Value).set 22 (.int v))))) : va_D A (zwM o o_tape o_frameAt o_field o_draft o_given o_low o_high o_packet o_known cB cI cL (zM_spans' x v)) := zq_M_spans ▸ h
theorem zq_M_packets {o o_tape o_frameAt o_field o_draft o_given o_low o_high o_packet o_known : Nat} {cB cI cL : ClassId} {x : zM} {v : Int32} : (zwM o o_tape o_frameAt o_field o_draft o_given o_low o_high o_packet o_known cB cI cL x).set 0 (o, .inr (8, ([.int (zM_thrown x), .ref o_tape, .int (zM_size x), .int (zM_fault x), .int (zM_faultAt x), .int (zM_frames x), .ref o_frameAt, .int (zM_framesEnd x), .ref o_field, .int (zM_dataAt x), .int (zM_dataSize x), .int (zM_secretAt x), .int (zM_ranges x), .int (zM_rangesAt x), .int (zM_at x), .int (zM_over x), .int (zM_end x), .ref o_draft, .ref o_given, .int (zM_gives x), .ref o_low, .ref o_high, .int (zM_spans x), .int (zM_packets x), .ref o_packet, .ref o_known] : List Value).set 23 (.int v))) = zwM o o_tape o_frameAt o_field o_draft o_given o_low o_high o_packet o_known cB cI cL (zM_packets' x v) := rfl
theorem zp_M_packets {D : va_G} {cl : List vw_C} {H : Heap} {o o_tape o_frameAt o_field o_draft o_given o_low o_high o_packet o_known : Nat} {cB cI cL : ClassId} {x : zM} {v : Int32} (h : va_P D cl ((zwM o o_tape o_frameAt o_field o_draft o_given o_low o_high o_packet o_known cB cI cL x).set 0 (o, .inr (8, ([.int (zM_thrown x), .ref o_tape, .int (zM_size x), .int (zM_fault x), .int (zM_faultAt x), .int (zM_frames x), .ref o_frameAt, .int (zM_framesEnd x), .ref o_field, .int (zM_dataAt x), .int (zM_dataSize x), .int (zM_secretAt x), .int (zM_ranges x), .int (zM_rangesAt x), .int (zM_at x), .int (zM_over x), .int (zM_end x), .ref o_draft, .ref o_given, .int (zM_gives x), .ref o_low, .ref o_high, .int (zM_spans x), .int (zM_packets x), .ref o_packet, .ref o_known] : List Value).set 23 (.int v)))) H) : va_P D cl (zwM o o_tape o_frameAt o_field o_draft o_given o_low o_high o_packet o_known cB cI cL (zM_packets' x v)) H := zq_M_packets ▸ h
theorem zd_M_packets {A : Nat → Prop} {o o_tape o_frameAt o_field o_draft o_given o_low o_high o_packet o_known : Nat} {cB cI cL : ClassId} {x : zM} {v : Int32} (h : va_D A ((zwM o o_tape o_frameAt o_field o_draft o_given o_low o_high o_packet o_known cB cI cL x).set 0 (o, .inr (8, ([.int (zM_thrown x), .ref o_tape, .int (zM_size x), .int (zM_fault x), .int (zM_faultAt x), .int (zM_frames x), .ref o_frameAt, .int (zM_framesEnd x), .ref o_field, .int (zM_dataAt x), .int (zM_dataSize x), .int (zM_secretAt x), .int (zM_ranges x), .int (zM_rangesAt x), .int (zM_at x), .int (zM_over x), .int (zM_end x), .ref o_draft, .ref o_given, .int (zM_gives x), .ref o_low, .ref o_high, .int (zM_spans x), .int (zM_packets x), .ref o_packet, .ref o_known] : List Value).set 23 (.int v))))) : va_D A (zwM o o_tape o_frameAt o_field o_draft o_given o_low o_high o_packet o_known cB cI cL (zM_packets' x v)) := zq_M_packets ▸ h
theorem zq_M_packet {o o_tape o_frameAt o_field o_draft o_given o_low o_high o_packet o_known : Nat} {cB cI cL : ClassId} {x : zM} {v : (Nat → Int32)} : (zwM o o_tape o_frameAt o_field o_draft o_given o_low o_high o_packet o_known cB cI cL x).set 8 (o_packet, .inl (cI, 49152, .inl v)) = zwM o o_tape o_frameAt o_field o_draft o_given o_low o_high o_packet o_known cB cI cL (zM_packet' x v) := rfl
theorem zp_M_packet {D : va_G} {cl : List vw_C} {H : Heap} {o o_tape o_frameAt o_field o_draft o_given o_low o_high o_packet o_known : Nat} {cB cI cL : ClassId} {x : zM} {v : (Nat → Int32)} (h : va_P D cl ((zwM o o_tape o_frameAt o_field o_draft o_given o_low o_high o_packet o_known cB cI cL x).set 8 (o_packet, .inl (cI, 49152, .inl v))) H) : va_P D cl (zwM o o_tape o_frameAt o_field o_draft o_given o_low o_high o_packet o_known cB cI cL (zM_packet' x v)) H := zq_M_packet ▸ h
theorem zd_M_packet {A : Nat → Prop} {o o_tape o_frameAt o_field o_draft o_given o_low o_high o_packet o_known : Nat} {cB cI cL : ClassId} {x : zM} {v : (Nat → Int32)} (h : va_D A ((zwM o o_tape o_frameAt o_field o_draft o_given o_low o_high o_packet o_known cB cI cL x).set 8 (o_packet, .inl (cI, 49152, .inl v)))) : va_D A (zwM o o_tape o_frameAt o_field o_draft o_given o_low o_high o_packet o_known cB cI cL (zM_packet' x v)) := zq_M_packet ▸ h
theorem zq_M_known {o o_tape o_frameAt o_field o_draft o_given o_low o_high o_packet o_known : Nat} {cB cI cL : ClassId} {x : zM} {v : (Nat → Int64)} : (zwM o o_tape o_frameAt o_field o_draft o_given o_low o_high o_packet o_known cB cI cL x).set 9 (o_known, .inl (cL, 17, .inr (.inl v))) = zwM o o_tape o_frameAt o_field o_draft o_given o_low o_high o_packet o_known cB cI cL (zM_known' x v) := rfl
theorem zp_M_known {D : va_G} {cl : List vw_C} {H : Heap} {o o_tape o_frameAt o_field o_draft o_given o_low o_high o_packet o_known : Nat} {cB cI cL : ClassId} {x : zM} {v : (Nat → Int64)} (h : va_P D cl ((zwM o o_tape o_frameAt o_field o_draft o_given o_low o_high o_packet o_known cB cI cL x).set 9 (o_known, .inl (cL, 17, .inr (.inl v)))) H) : va_P D cl (zwM o o_tape o_frameAt o_field o_draft o_given o_low o_high o_packet o_known cB cI cL (zM_known' x v)) H := zq_M_known ▸ h
theorem zd_M_known {A : Nat → Prop} {o o_tape o_frameAt o_field o_draft o_given o_low o_high o_packet o_known : Nat} {cB cI cL : ClassId} {x : zM} {v : (Nat → Int64)} (h : va_D A ((zwM o o_tape o_frameAt o_field o_draft o_given o_low o_high o_packet o_known cB cI cL x).set 9 (o_known, .inl (cL, 17, .inr (.inl v))))) : va_D A (zwM o o_tape o_frameAt o_field o_draft o_given o_low o_high o_packet o_known cB cI cL (zM_known' x v)) := zq_M_known ▸ h

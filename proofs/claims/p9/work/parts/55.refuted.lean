set_option maxRecDepth 100000 in
theorem zr_w5_0 : (((tables_1_5).drop 0).take 40).all zrp = true := by decide +kernel
set_option maxRecDepth 100000 in
theorem zr_w5_40 : (((tables_1_5).drop 40).take 40).all zrp = true := by decide +kernel
set_option maxRecDepth 100000 in
theorem zr_w5_80 : (((tables_1_5).drop 80).take 40).all zrp = true := by decide +kernel
set_option maxRecDepth 100000 in
theorem zr_w5_120 : (((tables_1_5).drop 120).take 40).all zrp = true := by decide +kernel
set_option maxRecDepth 100000 in
theorem zr_w5_160 : (((tables_1_5).drop 160).take 11).all zrp = true := by decide +kernel
set_option maxRecDepth 100000 in
theorem zr_c5_171 : zrp (Cond.code (⟨"WireCodecModel", "put", "(I)I"⟩ : MethodName) prog_10_method_52_code 5 (some .int)) = true := su_hand_word (m := ⟨13, 50⟩) (by decide +kernel) rfl (by decide +kernel) (by decide +kernel)
set_option maxRecDepth 100000 in
theorem zr_e5_171 : (tables_1_5).drop 171 = Cond.code (⟨"WireCodecModel", "put", "(I)I"⟩ : MethodName) prog_10_method_52_code 5 (some .int) :: (tables_1_5).drop 172 := rfl
set_option maxRecDepth 100000 in
theorem zr_w5_172 : (((tables_1_5).drop 172).take 4).all zrp = true := by decide +kernel
set_option maxRecDepth 100000 in
theorem zr_c5_176 : zrp (Cond.code (⟨"WireCodecModel", "suits", "(I)Z"⟩ : MethodName) prog_10_method_46_code 5 (some .boolean)) = true := su_hand_word (m := ⟨13, 44⟩) (by decide +kernel) rfl (by decide +kernel) (by decide +kernel)
set_option maxRecDepth 100000 in
theorem zr_e5_176 : (tables_1_5).drop 176 = Cond.code (⟨"WireCodecModel", "suits", "(I)Z"⟩ : MethodName) prog_10_method_46_code 5 (some .boolean) :: (tables_1_5).drop 177 := rfl
set_option maxRecDepth 100000 in
theorem zr_w5_177 : (((tables_1_5).drop 177).take 6).all zrp = true := by decide +kernel
set_option maxRecDepth 100000 in
theorem zr_c5_183 : zrp (Cond.code (⟨"WireCodecModel", "sizeOf", "(I)I"⟩ : MethodName) prog_10_method_48_code 5 (some .int)) = true := su_hand_word (m := ⟨13, 46⟩) (by decide +kernel) rfl (by decide +kernel) (by decide +kernel)
set_option maxRecDepth 100000 in
theorem zr_e5_183 : (tables_1_5).drop 183 = Cond.code (⟨"WireCodecModel", "sizeOf", "(I)I"⟩ : MethodName) prog_10_method_48_code 5 (some .int) :: (tables_1_5).drop 184 := rfl
set_option maxRecDepth 100000 in
theorem zr_w5_184 : (((tables_1_5).drop 184).take 36).all zrp = true := by decide +kernel
set_option maxRecDepth 100000 in
theorem zr_c5_220 : zrp (Cond.code (⟨"WireCodecModel", "longFlaw", "(I)I"⟩ : MethodName) prog_10_method_57_code 8 (some .int)) = true := su_hand_word (m := ⟨13, 55⟩) (by decide +kernel) rfl (by decide +kernel) (by decide +kernel)
set_option maxRecDepth 100000 in
theorem zr_e5_220 : (tables_1_5).drop 220 = Cond.code (⟨"WireCodecModel", "longFlaw", "(I)I"⟩ : MethodName) prog_10_method_57_code 8 (some .int) :: (tables_1_5).drop 221 := rfl
set_option maxRecDepth 100000 in
theorem zr_w5_221 : ((tables_1_5).drop 221).all zrp = true := by decide +kernel
set_option maxRecDepth 100000 in
theorem zr_u5 : (tables_1_5.drop 0).all zrp = true := zr_sp tables_1_5 0 40 zr_w5_0 (zr_sp tables_1_5 40 40 zr_w5_40 (zr_sp tables_1_5 80 40 zr_w5_80 (zr_sp tables_1_5 120 40 zr_w5_120 (zr_sp tables_1_5 160 11 zr_w5_160 (zr_cn tables_1_5 171 _ zr_e5_171 zr_c5_171 (zr_sp tables_1_5 172 4 zr_w5_172 (zr_cn tables_1_5 176 _ zr_e5_176 zr_c5_176 (zr_sp tables_1_5 177 6 zr_w5_177 (zr_cn tables_1_5 183 _ zr_e5_183 zr_c5_183 (zr_sp tables_1_5 184 36 zr_w5_184 (zr_cn tables_1_5 220 _ zr_e5_220 zr_c5_220 (zr_w5_221))))))))))))
theorem zr_v5 : ∀ c ∈ tables_1_5, c.before start1.args0 zrB = true := fun c h => List.all_eq_true.mp zr_u5 c (by rw [List.drop_zero]; exact h)

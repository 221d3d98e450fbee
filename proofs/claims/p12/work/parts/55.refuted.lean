set_option maxRecDepth 100000 in
theorem zr_w5_0 : (((tables_1_5).drop 0).take 40).all zrp = true := by decide +kernel
set_option maxRecDepth 100000 in
theorem zr_w5_40 : (((tables_1_5).drop 40).take 40).all zrp = true := by decide +kernel
set_option maxRecDepth 100000 in
theorem zr_w5_80 : (((tables_1_5).drop 80).take 40).all zrp = true := by decide +kernel
set_option maxRecDepth 100000 in
theorem zr_w5_120 : (((tables_1_5).drop 120).take 40).all zrp = true := by decide +kernel
set_option maxRecDepth 100000 in
theorem zr_w5_160 : (((tables_1_5).drop 160).take 15).all zrp = true := by decide +kernel
set_option maxRecDepth 100000 in
theorem zr_c5_175 : zrp (Cond.code (⟨"WireCodecModel", "put", "(I)I"⟩ : MethodName) prog_10_method_52_code 5 (some .int)) = true := su_hand_word (m := ⟨13, 51⟩) (by decide +kernel) rfl (by decide +kernel) (by decide +kernel)
set_option maxRecDepth 100000 in
theorem zr_e5_175 : (tables_1_5).drop 175 = Cond.code (⟨"WireCodecModel", "put", "(I)I"⟩ : MethodName) prog_10_method_52_code 5 (some .int) :: (tables_1_5).drop 176 := rfl
set_option maxRecDepth 100000 in
theorem zr_w5_176 : (((tables_1_5).drop 176).take 4).all zrp = true := by decide +kernel
set_option maxRecDepth 100000 in
theorem zr_c5_180 : zrp (Cond.code (⟨"WireCodecModel", "suits", "(I)Z"⟩ : MethodName) prog_10_method_46_code 5 (some .boolean)) = true := su_hand_word (m := ⟨13, 45⟩) (by decide +kernel) rfl (by decide +kernel) (by decide +kernel)
set_option maxRecDepth 100000 in
theorem zr_e5_180 : (tables_1_5).drop 180 = Cond.code (⟨"WireCodecModel", "suits", "(I)Z"⟩ : MethodName) prog_10_method_46_code 5 (some .boolean) :: (tables_1_5).drop 181 := rfl
set_option maxRecDepth 100000 in
theorem zr_w5_181 : (((tables_1_5).drop 181).take 6).all zrp = true := by decide +kernel
set_option maxRecDepth 100000 in
theorem zr_c5_187 : zrp (Cond.code (⟨"WireCodecModel", "sizeOf", "(I)I"⟩ : MethodName) prog_10_method_48_code 5 (some .int)) = true := su_hand_word (m := ⟨13, 47⟩) (by decide +kernel) rfl (by decide +kernel) (by decide +kernel)
set_option maxRecDepth 100000 in
theorem zr_e5_187 : (tables_1_5).drop 187 = Cond.code (⟨"WireCodecModel", "sizeOf", "(I)I"⟩ : MethodName) prog_10_method_48_code 5 (some .int) :: (tables_1_5).drop 188 := rfl
set_option maxRecDepth 100000 in
theorem zr_w5_188 : (((tables_1_5).drop 188).take 36).all zrp = true := by decide +kernel
set_option maxRecDepth 100000 in
theorem zr_c5_224 : zrp (Cond.code (⟨"WireCodecModel", "longFlaw", "(I)I"⟩ : MethodName) prog_10_method_57_code 8 (some .int)) = true := su_hand_word (m := ⟨13, 56⟩) (by decide +kernel) rfl (by decide +kernel) (by decide +kernel)
set_option maxRecDepth 100000 in
theorem zr_e5_224 : (tables_1_5).drop 224 = Cond.code (⟨"WireCodecModel", "longFlaw", "(I)I"⟩ : MethodName) prog_10_method_57_code 8 (some .int) :: (tables_1_5).drop 225 := rfl
set_option maxRecDepth 100000 in
theorem zr_w5_225 : ((tables_1_5).drop 225).all zrp = true := by decide +kernel
set_option maxRecDepth 100000 in
theorem zr_u5 : (tables_1_5.drop 0).all zrp = true := zr_sp tables_1_5 0 40 zr_w5_0 (zr_sp tables_1_5 40 40 zr_w5_40 (zr_sp tables_1_5 80 40 zr_w5_80 (zr_sp tables_1_5 120 40 zr_w5_120 (zr_sp tables_1_5 160 15 zr_w5_160 (zr_cn tables_1_5 175 _ zr_e5_175 zr_c5_175 (zr_sp tables_1_5 176 4 zr_w5_176 (zr_cn tables_1_5 180 _ zr_e5_180 zr_c5_180 (zr_sp tables_1_5 181 6 zr_w5_181 (zr_cn tables_1_5 187 _ zr_e5_187 zr_c5_187 (zr_sp tables_1_5 188 36 zr_w5_188 (zr_cn tables_1_5 224 _ zr_e5_224 zr_c5_224 (zr_w5_225))))))))))))
theorem zr_v5 : ∀ c ∈ tables_1_5, c.before start1.args0 zrB = true := fun c h => List.all_eq_true.mp zr_u5 c (by rw [List.drop_zero]; exact h)

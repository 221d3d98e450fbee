set_option maxRecDepth 100000 in
theorem zr_w4_0 : (((tables_1_4).drop 0).take 40).all zrp = true := by decide +kernel
set_option maxRecDepth 100000 in
theorem zr_w4_40 : (((tables_1_4).drop 40).take 40).all zrp = true := by decide +kernel
set_option maxRecDepth 100000 in
theorem zr_w4_80 : (((tables_1_4).drop 80).take 40).all zrp = true := by decide +kernel
set_option maxRecDepth 100000 in
theorem zr_w4_120 : (((tables_1_4).drop 120).take 40).all zrp = true := by decide +kernel
set_option maxRecDepth 100000 in
theorem zr_w4_160 : (((tables_1_4).drop 160).take 40).all zrp = true := by decide +kernel
set_option maxRecDepth 100000 in
theorem zr_w4_200 : ((tables_1_4).drop 200).all zrp = true := by decide +kernel
set_option maxRecDepth 100000 in
theorem zr_u4 : (tables_1_4.drop 0).all zrp = true := zr_sp tables_1_4 0 40 zr_w4_0 (zr_sp tables_1_4 40 40 zr_w4_40 (zr_sp tables_1_4 80 40 zr_w4_80 (zr_sp tables_1_4 120 40 zr_w4_120 (zr_sp tables_1_4 160 40 zr_w4_160 (zr_w4_200)))))
theorem zr_v4 : ∀ c ∈ tables_1_4, c.before start1.args0 zrB = true := fun c h => List.all_eq_true.mp zr_u4 c (by rw [List.drop_zero]; exact h)

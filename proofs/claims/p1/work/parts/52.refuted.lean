set_option maxRecDepth 100000 in
theorem zr_w2_0 : (((tables_1_2).drop 0).take 40).all zrp = true := by decide +kernel
set_option maxRecDepth 100000 in
theorem zr_w2_40 : (((tables_1_2).drop 40).take 40).all zrp = true := by decide +kernel
set_option maxRecDepth 100000 in
theorem zr_w2_80 : (((tables_1_2).drop 80).take 40).all zrp = true := by decide +kernel
set_option maxRecDepth 100000 in
theorem zr_w2_120 : (((tables_1_2).drop 120).take 40).all zrp = true := by decide +kernel
set_option maxRecDepth 100000 in
theorem zr_w2_160 : (((tables_1_2).drop 160).take 40).all zrp = true := by decide +kernel
set_option maxRecDepth 100000 in
theorem zr_w2_200 : ((tables_1_2).drop 200).all zrp = true := by decide +kernel
set_option maxRecDepth 100000 in
theorem zr_u2 : (tables_1_2.drop 0).all zrp = true := zr_sp tables_1_2 0 40 zr_w2_0 (zr_sp tables_1_2 40 40 zr_w2_40 (zr_sp tables_1_2 80 40 zr_w2_80 (zr_sp tables_1_2 120 40 zr_w2_120 (zr_sp tables_1_2 160 40 zr_w2_160 (zr_w2_200)))))
theorem zr_v2 : ∀ c ∈ tables_1_2, c.before start1.args0 zrB = true := fun c h => List.all_eq_true.mp zr_u2 c (by rw [List.drop_zero]; exact h)

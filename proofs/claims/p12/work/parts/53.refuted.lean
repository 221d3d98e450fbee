set_option maxRecDepth 100000 in
theorem zr_w3_0 : (((tables_1_3).drop 0).take 80).all zrp = true := by decide +kernel
set_option maxRecDepth 100000 in
theorem zr_w3_80 : (((tables_1_3).drop 80).take 80).all zrp = true := by decide +kernel
set_option maxRecDepth 100000 in
theorem zr_w3_160 : ((tables_1_3).drop 160).all zrp = true := by decide +kernel
set_option maxRecDepth 100000 in
theorem zr_u3 : (tables_1_3.drop 0).all zrp = true := zr_sp tables_1_3 0 80 zr_w3_0 (zr_sp tables_1_3 80 80 zr_w3_80 (zr_w3_160))
theorem zr_v3 : ∀ c ∈ tables_1_3, c.before start1.args0 zrB = true := fun c h => List.all_eq_true.mp zr_u3 c (by rw [List.drop_zero]; exact h)

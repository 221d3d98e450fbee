set_option maxRecDepth 100000 in
theorem zr_w2_0 : (((tables_1_2).drop 0).take 120).all zrp = true := by decide +kernel
set_option maxRecDepth 100000 in
theorem zr_w2_120 : ((tables_1_2).drop 120).all zrp = true := by decide +kernel
set_option maxRecDepth 100000 in
theorem zr_u2 : (tables_1_2.drop 0).all zrp = true := zr_sp tables_1_2 0 120 zr_w2_0 (zr_w2_120)
theorem zr_v2 : ∀ c ∈ tables_1_2, c.before start1.args0 zrB = true := fun c h => List.all_eq_true.mp zr_u2 c (by rw [List.drop_zero]; exact h)

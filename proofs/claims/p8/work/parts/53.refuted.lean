set_option maxRecDepth 100000 in
theorem zr_w5_0 : ((tables_1_5.drop 0).take 177).all zrp = true := by decide +kernel
set_option maxRecDepth 100000 in
theorem zr_w5_177 : (tables_1_5.drop 177).all zrp = true := by decide +kernel
set_option maxRecDepth 100000 in
theorem zr_u5 : (tables_1_5.drop 0).all zrp = true := zr_sp tables_1_5 0 177 zr_w5_0 (zr_w5_177)
theorem zr_v5 : ∀ c ∈ tables_1_5, c.before start1.args0 zrB = true := fun c h => zr_cb (List.all_eq_true.mp zr_u5 c (by rw [List.drop_zero]; exact h)) (start1.words_5 c h)

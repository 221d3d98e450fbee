set_option maxRecDepth 100000 in
theorem zr_w3_0 : ((tables_1_3.drop 0).take 134).all zrp = true := by decide +kernel
set_option maxRecDepth 100000 in
theorem zr_w3_134 : (tables_1_3.drop 134).all zrp = true := by decide +kernel
set_option maxRecDepth 100000 in
theorem zr_u3 : (tables_1_3.drop 0).all zrp = true := zr_sp tables_1_3 0 134 zr_w3_0 (zr_w3_134)
theorem zr_v3 : ∀ c ∈ tables_1_3, c.before start1.args0 zrB = true := fun c h => zr_cb (List.all_eq_true.mp zr_u3 c (by rw [List.drop_zero]; exact h)) (start1.words_3 c h)
set_option maxRecDepth 100000 in
theorem zr_w4_0 : ((tables_1_4.drop 0).take 132).all zrp = true := by decide +kernel
set_option maxRecDepth 100000 in
theorem zr_w4_132 : ((tables_1_4.drop 132).take 107).all zrp = true := by decide +kernel
set_option maxRecDepth 100000 in
theorem zr_w4_239 : (tables_1_4.drop 239).all zrp = true := by decide +kernel
set_option maxRecDepth 100000 in
theorem zr_u4 : (tables_1_4.drop 0).all zrp = true := zr_sp tables_1_4 0 132 zr_w4_0 (zr_sp tables_1_4 132 107 zr_w4_132 (zr_w4_239))
theorem zr_v4 : ∀ c ∈ tables_1_4, c.before start1.args0 zrB = true := fun c h => zr_cb (List.all_eq_true.mp zr_u4 c (by rw [List.drop_zero]; exact h)) (start1.words_4 c h)

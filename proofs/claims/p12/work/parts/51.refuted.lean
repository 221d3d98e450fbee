def zrp : Cond → Bool := fun c => c.before start1.args0 zrB
theorem zr_sp (l : List Cond) (a k : Nat) (h1 : ((l.drop a).take k).all zrp = true) (h2 : (l.drop (a + k)).all zrp = true) : (l.drop a).all zrp = true := by
  rw [← List.take_append_drop k (l.drop a), List.all_append, h1, List.drop_drop, h2]
  rfl
theorem zr_cn (l : List Cond) (a : Nat) (w : Cond) (e : l.drop a = w :: l.drop (a + 1)) (hw : zrp w = true) (h2 : (l.drop (a + 1)).all zrp = true) : (l.drop a).all zrp = true := by
  rw [e, List.all_cons, hw, h2]
  rfl
set_option maxRecDepth 100000 in
theorem zr_w1_0 : (((tables_1_1).drop 0).take 80).all zrp = true := by decide +kernel
set_option maxRecDepth 100000 in
theorem zr_w1_80 : (((tables_1_1).drop 80).take 80).all zrp = true := by decide +kernel
set_option maxRecDepth 100000 in
theorem zr_w1_160 : ((tables_1_1).drop 160).all zrp = true := by decide +kernel
set_option maxRecDepth 100000 in
theorem zr_u1 : (tables_1_1.drop 0).all zrp = true := zr_sp tables_1_1 0 80 zr_w1_0 (zr_sp tables_1_1 80 80 zr_w1_80 (zr_w1_160))
theorem zr_v1 : ∀ c ∈ tables_1_1, c.before start1.args0 zrB = true := fun c h => List.all_eq_true.mp zr_u1 c (by rw [List.drop_zero]; exact h)

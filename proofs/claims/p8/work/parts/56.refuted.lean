set_option maxRecDepth 100000 in
theorem zr_w6_0 : (tables_1_6.drop 0).all zrp = true := by decide +kernel
set_option maxRecDepth 100000 in
theorem zr_u6 : (tables_1_6.drop 0).all zrp = true := zr_w6_0
theorem zr_v6 : ∀ c ∈ tables_1_6, c.before start1.args0 zrB = true := fun c h => zr_cb (List.all_eq_true.mp zr_u6 c (by rw [List.drop_zero]; exact h)) (start1.words_6 c h)
set_option maxRecDepth 100000 in
theorem zr_v0 : (Cond.code x code maxLocals ret).before start1.args0 zrB = true := su_hand_word (m := ⟨0, 0⟩) (by decide +kernel) rfl (by decide +kernel) (by decide +kernel)
theorem zr_words : ∀ c ∈ (Cond.code x code maxLocals ret :: tables_1), c.before start1.args0 zrB = true := by
  intro c hc
  rcases List.mem_cons.mp hc with h | h
  · rw [h]; exact zr_v0
  · have h1 : c ∈ tables_1_1 ++ (tables_1_2 ++ (tables_1_3 ++ (tables_1_4 ++ (tables_1_5 ++ tables_1_6)))) := h
    rcases List.mem_append.mp h1 with h2 | h1
    · exact zr_v1 c h2
    rcases List.mem_append.mp h1 with h2 | h1
    · exact zr_v2 c h2
    rcases List.mem_append.mp h1 with h2 | h1
    · exact zr_v3 c h2
    rcases List.mem_append.mp h1 with h2 | h1
    · exact zr_v4 c h2
    rcases List.mem_append.mp h1 with h2 | h1
    · exact zr_v5 c h2
    exact zr_v6 c h1
set_option maxRecDepth 100000 in
theorem zr_start : AtStart classFile x code maxLocals ret World_1 tables_1 room_1 Calls_1 rest_1 Pre_1 launch0 start1.p0 start1.e0 zrB ⟨0, 0⟩ start1.args0 Lib.HandBits.below0 :=
  ⟨lists_1, trivial, launch0.admits_env _ _ _, launch0.least_env, fairChoices_fair.cas, fairChoices_fair.clock, rfl, by decide +kernel, by decide +kernel,
    (Spec.applies_iff rfl).mpr ⟨rfl, rfl, rfl, by decide +kernel, by decide +kernel, by decide +kernel, launch0.hasRoom_least _ room_1 (by decide +kernel) (by decide +kernel) (by decide +kernel) (by decide +kernel) (by decide +kernel) (by decide +kernel), atoms_intro zr_words⟩,
    trivial, (show rest_1_c.before start1.args0 zrB = true by decide +kernel), (show (Cond.and given_1 narrow_1).before start1.args0 zrB = true by decide +kernel)⟩
set_option maxRecDepth 100000 in
/-- the statement's first part falls: a start that all its premises let pass, and a run from there that ends by a throw -/
theorem zr_falls : RefutedClaimed_1_1 := by
  obtain ⟨n, hn, hw⟩ := zr_steps
  obtain ⟨h1, a, h2⟩ := zr_ends
  refine ⟨launch0, start1.p0, start1.e0, zrB, ⟨0, 0⟩, start1.args0, Lib.HandBits.below0, rfl, zr_start, n, .threw a, hw, by rw [hn]; exact h1, by rw [hn]; exact h2, fun h => ?_⟩
  have h3 : limb_1_1.after start1.args0 zrB (.threw a) _ = true := h.1
  simp [limb_1_1, Cond.after, Cond.holds, Cond.value] at h3
theorem zr_not : ¬ (Claimed_1_1 ∧ Claimed_1_2) := by
  rintro ⟨hC, -⟩
  obtain ⟨l, p, e, s, m, args, below, hf, ⟨g1, g2, g3, g4, g5, g6, g7, g8, g9, g10, g11, g12, g13⟩, n, o, hw, hr, he, hp⟩ := zr_falls
  obtain ⟨n', o', hw', hr', he', hp'⟩ := hC l hf g1 g2 p e g3 g5 g6 s m args below g7 g8 g9 g10 ⟨g11, g12, g13⟩
  obtain ⟨rfl, rfl⟩ := the_end_unique (f := fun k => stepsAlone p.tables e k s) hw he hw' he'
  exact hp hp'

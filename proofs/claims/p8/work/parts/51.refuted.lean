-- own rows: words that the witness has carry over to the start with one class more
def zrq : Cond → Bool
  | .code .. => true
  | .codeSync .. => true
  | .codeWith .. => true
  | .static _ => true
  | .instanceMethod _ => true
  | .native _ => true
  | .privateMethod _ => true
  | .declares _ => true
  | .initialized _ => true
  | .instantiable .. => true
  | .constant .. => true
  | .constantLong .. => true
  | .soleField .. => true
  | _ => false
theorem zr_kM {s t : State} (hF : ∀ n c, s.vm.findClass n = some c → t.vm.findClass n = some c) (hC : ∀ (c : ClassId) k, s.vm.classes[c]? = some k → t.vm.classes[c]? = some k) (x : MethodName) (f : Method → Bool)
    (h : (((s.methodNamed? x).bind s.vm.method?).map f) = some true) : (((t.methodNamed? x).bind t.vm.method?).map f) = some true := by
  cases h1 : s.vm.findClass x.cls with
  | none => simp [State.methodNamed?, h1] at h
  | some c =>
    cases h2 : s.vm.classes[c]? with
    | none => simp [State.methodNamed?, h1, h2] at h
    | some k =>
      cases h3 : k.findMethod x.name x.desc with
      | none => simp [State.methodNamed?, h1, h2, h3] at h
      | some i =>
        have g1 := hF _ _ h1
        have g2 := hC _ _ h2
        simp [State.methodNamed?, Vm.method?, h1, h2, h3] at h
        simp [State.methodNamed?, Vm.method?, g1, g2, h3]
        exact h
theorem zr_kK {s t : State} (hF : ∀ n c, s.vm.findClass n = some c → t.vm.findClass n = some c) (hC : ∀ (c : ClassId) k, s.vm.classes[c]? = some k → t.vm.classes[c]? = some k) (n : String) (f : Class → Bool)
    (h : (((s.vm.findClass n).bind (s.vm.classes[·]?)).map f) = some true) : (((t.vm.findClass n).bind (t.vm.classes[·]?)).map f) = some true := by
  cases h1 : s.vm.findClass n with
  | none => simp [h1] at h
  | some c =>
    cases h2 : s.vm.classes[c]? with
    | none => simp [h1, h2] at h
    | some k =>
      simp [h1, h2] at h
      simp [hF _ _ h1, hC _ _ h2, h]
theorem zr_kS {s t : State} (hF : ∀ n c, s.vm.findClass n = some c → t.vm.findClass n = some c) (hC : ∀ (c : ClassId) k, s.vm.classes[c]? = some k → t.vm.classes[c]? = some k) (n : String) (f : Class → Bool)
    (h : (s.vm.findClass n).bind (fun c => (s.vm.classes[c]?).map f) = some true) : (t.vm.findClass n).bind (fun c => (t.vm.classes[c]?).map f) = some true := by
  cases h1 : s.vm.findClass n with
  | none => simp [h1] at h
  | some c =>
    cases h2 : s.vm.classes[c]? with
    | none => simp [h1, h2] at h
    | some k =>
      simp [h1, h2] at h
      simp [hF _ _ h1, hC _ _ h2, h]
theorem zr_kN {s t : State} (hF : ∀ n c, s.vm.findClass n = some c → t.vm.findClass n = some c) (hC : ∀ (c : ClassId) k, s.vm.classes[c]? = some k → t.vm.classes[c]? = some k) (n : String) (i : Nat) (w : Names)
    (h : (s.vm.findClass n).map (fun _ => s.names n i w) = some true) : (t.vm.findClass n).map (fun _ => t.names n i w) = some true := by
  cases h1 : s.vm.findClass n with
  | none => simp [h1] at h
  | some c =>
    cases h2 : s.vm.classes[c]? with
    | none => simp [h1, h2, State.names, State.poolOf?] at h
    | some k =>
      simp [h1, h2, State.names, State.poolOf?] at h
      simp [hF _ _ h1, hC _ _ h2, State.names, State.poolOf?]
      exact h
theorem zr_kW {s t : State} (hF : ∀ n c, s.vm.findClass n = some c → t.vm.findClass n = some c) (hC : ∀ (c : ClassId) k, s.vm.classes[c]? = some k → t.vm.classes[c]? = some k) (a : Array Value) (c : Cond) (hq : zrq c = true)
    (h : c.before a s = true) : c.before a t = true := by
  cases c <;> first | (exfalso; revert hq; simp [zrq]; done) | skip
  all_goals simp only [Cond.before, Cond.holds, Cond.value, beq_iff_eq] at h ⊢
  all_goals first | exact zr_kM hF hC _ _ h | exact zr_kK hF hC _ _ h | exact zr_kN hF hC _ _ _ h | exact zr_kS hF hC _ _ h
theorem zr_kF (n : String) (c : ClassId) (h : start1.about.vm.findClass n = some c) : zrB.vm.findClass n = some c := by
  have e : zrB.vm.classes = start1.about.vm.classes.push zrK := rfl
  unfold Vm.findClass at h ⊢
  rw [e, Array.findIdx?_push, h]
  rfl
theorem zr_kC (c : ClassId) (k : Class) (h : start1.about.vm.classes[c]? = some k) : zrB.vm.classes[c]? = some k := by
  have e : zrB.vm.classes = start1.about.vm.classes.push zrK := rfl
  obtain ⟨hl, -⟩ := Array.getElem?_eq_some_iff.mp h
  rw [e, Array.getElem?_push, if_neg (Nat.ne_of_lt hl), h]
def zrp : Cond → Bool := fun c => zrq c || c.before start1.args0 zrB
theorem zr_cb {c : Cond} (h : zrp c = true) (hb : c.before start1.args0 start1.about = true) : c.before start1.args0 zrB = true := by
  cases hq : zrq c with
  | true => exact zr_kW zr_kF zr_kC _ c hq hb
  | false =>
    unfold zrp at h
    rw [hq, Bool.false_or] at h
    exact h
theorem zr_sp (l : List Cond) (a k : Nat) (h1 : ((l.drop a).take k).all zrp = true) (h2 : (l.drop (a + k)).all zrp = true) : (l.drop a).all zrp = true := by
  rw [← List.take_append_drop k (l.drop a), List.all_append, h1, List.drop_drop, h2]
  rfl
set_option maxRecDepth 100000 in
theorem zr_w1_0 : ((tables_1_1.drop 0).take 108).all zrp = true := by decide +kernel
set_option maxRecDepth 100000 in
theorem zr_w1_108 : ((tables_1_1.drop 108).take 90).all zrp = true := by decide +kernel
set_option maxRecDepth 100000 in
theorem zr_w1_198 : (tables_1_1.drop 198).all zrp = true := by decide +kernel
set_option maxRecDepth 100000 in
theorem zr_u1 : (tables_1_1.drop 0).all zrp = true := zr_sp tables_1_1 0 108 zr_w1_0 (zr_sp tables_1_1 108 90 zr_w1_108 (zr_w1_198))
theorem zr_v1 : ∀ c ∈ tables_1_1, c.before start1.args0 zrB = true := fun c h => zr_cb (List.all_eq_true.mp zr_u1 c (by rw [List.drop_zero]; exact h)) (start1.words_1 c h)
set_option maxRecDepth 100000 in
theorem zr_w2_0 : ((tables_1_2.drop 0).take 110).all zrp = true := by decide +kernel
set_option maxRecDepth 100000 in
theorem zr_w2_110 : ((tables_1_2.drop 110).take 108).all zrp = true := by decide +kernel
set_option maxRecDepth 100000 in
theorem zr_w2_218 : (tables_1_2.drop 218).all zrp = true := by decide +kernel
set_option maxRecDepth 100000 in
theorem zr_u2 : (tables_1_2.drop 0).all zrp = true := zr_sp tables_1_2 0 110 zr_w2_0 (zr_sp tables_1_2 110 108 zr_w2_110 (zr_w2_218))
theorem zr_v2 : ∀ c ∈ tables_1_2, c.before start1.args0 zrB = true := fun c h => zr_cb (List.all_eq_true.mp zr_u2 c (by rw [List.drop_zero]; exact h)) (start1.words_2 c h)

-- own rows: the statement falls at a start that all its premises let pass: ABSENT's array is of a second class of arrays of long (class 29), whose clone is its own
def zrK : Class := { start1.cArr "[J2" 27 .long with interfaces := #[17], methods := #[Lib.HandJ.method "clone" "()Ljava/lang/Object;" [] (some (.object "java/lang/Object")) 0x1 1 (.mk #[0x2a, 0xbf])] }
/-- the witness's own start, an empty script; one class more, an array class over long with a 'clone' of its own (aload_0, athrow); the static array ABSENT (cell 4) is of that class -/
def zrB : State :=
  let s := start1.aboutOf #[]
  { s with vm := { s.vm with classes := s.vm.classes.push zrK }
           heap := s.heap.modify 4 (fun c => { c with cls := 29 }) }
def zrF : Frame → Bool
  | .native g => decide (g.method.cls = 0) && decide (g.method.idx = 0) && decide (g.args.size = 0) && decide (g.stage = 0) && decide (g.saved.size = 0) && !g.awaiting && g.answer.isNone && g.locked.isNone && decide (g.words = 0)
  | _ => false
theorem zrF_eq {f : Frame} (h : zrF f = true) : [f] = Lib.HandBits.below0 := by
  cases f with
  | native g =>
    obtain ⟨⟨mc, mi⟩, ag, st, sv, aw, an, lo, wo⟩ := g
    simp only [zrF, Bool.and_eq_true, decide_eq_true_eq, Bool.not_eq_true', Option.isNone_iff_eq_none] at h
    obtain ⟨⟨⟨⟨⟨⟨⟨⟨h1, h2⟩, h3⟩, h4⟩, h5⟩, h6⟩, h7⟩, h8⟩, h9⟩ := h
    subst h1 h2 h4 h6 h7 h8 h9
    have e1 : ag = #[] := Array.eq_empty_of_size_eq_zero h3
    have e2 : sv = #[] := Array.eq_empty_of_size_eq_zero h5
    subst e1 e2
    rfl
  | _ => simp [zrF] at h
def zrT : Frame → Bool
  | .throwing _ => true
  | _ => false
def zrW : List Frame → Bool
  | [] => false
  | [_] => false
  | [a, f] => !zrT a && zrF f
  | _ :: b :: c :: r => match (c :: r).getLast? with | some f => zrF f | none => false
theorem zrW_ok {s : State} (h : zrW s.frames = true) : Within s Lib.HandBits.below0 := by
  unfold Within
  generalize s.frames = fs at h
  match fs, h with
  | [], h => simp [zrW] at h
  | [_], h => simp [zrW] at h
  | [a, f], h =>
    simp only [zrW, Bool.and_eq_true, Bool.not_eq_true'] at h
    refine ⟨[a], by rw [← zrF_eq h.2]; rfl, by simp, fun q hq => ?_⟩
    have e : a = .throwing q := by simpa using hq
    rw [e] at h
    simp [zrT] at h
  | a :: b :: c :: r, h =>
    simp only [zrW] at h
    cases hl : (c :: r).getLast? with
    | none => simp at hl
    | some f =>
      rw [hl] at h
      have hne : (c :: r) ≠ [] := by simp
      have hf : (c :: r).getLast hne = f := by
        have h0 : (c :: r).getLast? = some ((c :: r).getLast hne) := List.getLast?_eq_some_getLast hne
        rw [hl] at h0
        exact (Option.some.inj h0).symm
      refine ⟨a :: b :: (c :: r).dropLast, ?_, by simp, fun q hq => by simp at hq⟩
      have h2 : (c :: r).dropLast ++ [f] = c :: r := by rw [← hf]; exact List.dropLast_concat_getLast hne
      rw [← zrF_eq h, List.cons_append, List.cons_append, h2]
def zrO (s : State) : Bool := decide (s.status = .running) && decide (s.curStatus? = some .runnable) && s.alone
def zrE : List Frame → Bool
  | [a, f] => zrT a && zrF f
  | _ => false
def zrX (n : Nat) (s : State) : State := match n with
  | 0 => s
  | n + 1 => zrX n (stepThread start1.p0.tables start1.e0 s).1
def zrC : Nat → State → Bool
  | 0, _ => true
  | n + 1, s => zrW s.frames && zrO s && zrC n (stepThread start1.p0.tables start1.e0 s).1
theorem zrC_ok : ∀ (n : Nat) (s : State), zrC n s = true → Steps start1.p0.tables start1.e0 Lib.HandBits.below0 s (zrX n s)
  | 0, s, _ => Steps.refl s
  | n + 1, s, h => by
    simp only [zrC, zrO, Bool.and_eq_true, decide_eq_true_eq] at h
    obtain ⟨⟨h1, ⟨h2, h3⟩, h4⟩, h5⟩ := h
    exact Steps.head ⟨h2, h3, h4⟩ (zrW_ok h1) (zrC_ok n _ h5)
def zrG (s : State) : JFrame := s.topJava?.getD default
theorem zrG_top {s : State} (h : s.topJava?.isSome = true) : s.topJava? = some (zrG s) := by
  unfold zrG
  cases hq : s.topJava? with
  | none => rw [hq] at h; cases h
  | some g => rfl
def zrL : List Frame → Bool
  | [] => false
  | c :: r => match (c :: r).getLast? with | some f => zrF f | none => false
theorem zrL_ok {fs : List Frame} (h : zrL fs = true) : ∃ mid, fs = mid ++ Lib.HandBits.below0 := by
  match fs, h with
  | [], h => simp [zrL] at h
  | c :: r, h =>
    simp only [zrL] at h
    cases hl : (c :: r).getLast? with
    | none => simp at hl
    | some f =>
      rw [hl] at h
      have hne : (c :: r) ≠ [] := by simp
      have hf : (c :: r).getLast hne = f := by
        have h0 : (c :: r).getLast? = some ((c :: r).getLast hne) := List.getLast?_eq_some_getLast hne
        rw [hl] at h0
        exact (Option.some.inj h0).symm
      exact ⟨(c :: r).dropLast, by rw [← zrF_eq h, ← hf]; exact (List.dropLast_concat_getLast hne).symm⟩
def zrP (s : State) (m : MethodId) : Bool := match s.vm.classes[m.cls]? with | some k => plainName k.name || rowless k m.idx | none => true
/-- newarray stands on top, of that type, length and class, and there is room for it -/
def zrA (s : State) (at' : ArrayType) (cA n : Nat) : Bool :=
  s.topJava?.isSome && zrL s.frames.tail && zrO s && zrP s (zrG s).method &&
  (match s.code? (zrG s).method with | some c => decide (decode c.code (zrG s).pc = .ok (.newarray at', 2)) | none => false) &&
  (match (zrG s).stack with | .int k :: _ => decide (¬ k < 0) && decide (k.toNatClampNeg = n) | _ => false) &&
  decide (s.vm.findClass ("[" ++ (newarray.typeOf at').toString) = some cA) &&
  (match s.vm.classes[cA]? with | some k => (match k.kind with | .array _ ty => decide (ty = newarray.typeOf at') | _ => false) | none => false) &&
  decide (¬ n > start1.e0.platform.arrayLengthLimit) && decide (¬ n * componentBytes (newarray.typeOf at') > start1.e0.platform.maxHeapBytes) &&
  decide (s.heap.size < start1.e0.platform.maxCells) && decide (s.slotsUsed + n ≤ start1.e0.platform.maxSlots)
def zrN (s : State) (at' : ArrayType) (cA n : Nat) : State :=
  (s.pushCell { cls := cA, slots := Array.replicate n (defaultValue (newarray.typeOf at')), vm := .none }).setTop { zrG s with pc := (zrG s).pc + 2, stack := .ref s.heap.size :: (zrG s).stack.tail }
theorem zrA_ok {s : State} {at' : ArrayType} {cA n : Nat} (h : zrA s at' cA n = true) : Steps start1.p0.tables start1.e0 Lib.HandBits.below0 s (zrN s at' cA n) := by
  simp only [zrA, Bool.and_eq_true] at h
  obtain ⟨⟨⟨⟨⟨⟨⟨⟨⟨⟨⟨h1, h2⟩, h3⟩, h4⟩, h5⟩, h6⟩, h7⟩, h8⟩, h9⟩, h10⟩, h11⟩, h12⟩ := h
  have hT := zrG_top h1
  have h3' := h3
  simp only [zrO, Bool.and_eq_true, decide_eq_true_eq] at h3'
  cases hcode : s.code? (zrG s).method with
  | none => rw [hcode] at h5; cases h5
  | some c =>
    rw [hcode] at h5
    have hdec := of_decide_eq_true h5
    have hat : At s (zrG s).method c Lib.HandBits.below0 := ⟨h1, zrL_ok h2, h3'.1.1, h3'.1.2, h3'.2, hcode, fun k hk => by
      unfold zrP at h4
      rw [hk] at h4
      exact h4⟩
    cases hstk : (zrG s).stack with
    | nil => rw [hstk] at h6; cases h6
    | cons v rest =>
      rw [hstk] at h6
      cases v with
      | int k =>
        simp only [Bool.and_eq_true, decide_eq_true_eq] at h6
        obtain ⟨hk0, hkn⟩ := h6
        cases hcl : s.vm.classes[cA]? with
        | none => rw [hcl] at h8; cases h8
        | some kc =>
          rw [hcl] at h8
          cases hkind : kc.kind with
          | array comp ty =>
            simp only [hkind, decide_eq_true_eq] at h8
            subst h8
            subst hkn
            have e := State.setTop_self hT
            generalize hgg : zrG s = g at *
            conv => arg 4; rw [← e]
            unfold zrN
            rw [hgg]
            have hexec : start1.p0.tables.exec = Jvm.exec := rfl
            jvm_step hat [hexec, hdec, newarray.wp_ready (e := start1.e0) (s := s) (f := g) (c := cA) (k := kc) (comp := comp) h1 (of_decide_eq_true h7) hcl hkind hstk hk0 (of_decide_eq_true h9) (of_decide_eq_true h10)]
            refine ⟨of_decide_eq_true h11, of_decide_eq_true h12, ?_⟩
            rw [hstk]
            exact Steps.refl _
          | ordinary => simp [hkind] at h8
          | primitive _ => simp [hkind] at h8
      | _ => cases h6
def zrS0 : State := zrB
def zrT0 : State := zrX 16 zrS0
def zrS1 : State := zrN zrT0 .byte 26 1024
set_option maxRecDepth 100000 in
theorem zr_a0 : zrC 16 zrS0 = true := by decide +kernel
set_option maxRecDepth 100000 in
theorem zr_b0 : zrA zrT0 .byte 26 1024 = true := by decide +kernel
def zrT1 : State := zrX 26 zrS1
def zrS2 : State := zrN zrT1 .int 24 512
set_option maxRecDepth 100000 in
theorem zr_a1 : zrC 26 zrS1 = true := by decide +kernel
set_option maxRecDepth 100000 in
theorem zr_b1 : zrA zrT1 .int 24 512 = true := by decide +kernel
def zrT2 : State := zrX 15 zrS2
def zrS3 : State := zrN zrT2 .long 28 12
set_option maxRecDepth 100000 in
theorem zr_a2 : zrC 15 zrS2 = true := by decide +kernel
set_option maxRecDepth 100000 in
theorem zr_b2 : zrA zrT2 .long 28 12 = true := by decide +kernel
def zrT3 : State := zrX 12 zrS3
def zrS4 : State := zrN zrT3 .int 24 12
set_option maxRecDepth 100000 in
theorem zr_a3 : zrC 12 zrS3 = true := by decide +kernel
set_option maxRecDepth 100000 in
theorem zr_b3 : zrA zrT3 .int 24 12 = true := by decide +kernel
def zrT4 : State := zrX 12 zrS4
def zrS5 : State := zrN zrT4 .long 28 12
set_option maxRecDepth 100000 in
theorem zr_a4 : zrC 12 zrS4 = true := by decide +kernel
set_option maxRecDepth 100000 in
theorem zr_b4 : zrA zrT4 .long 28 12 = true := by decide +kernel
def zrT5 : State := zrX 3 zrS5
def zrS6 : State := zrN zrT5 .byte 26 2000
set_option maxRecDepth 100000 in
theorem zr_a5 : zrC 3 zrS5 = true := by decide +kernel
set_option maxRecDepth 100000 in
theorem zr_b5 : zrA zrT5 .byte 26 2000 = true := by decide +kernel
def zrT6 : State := zrX 3 zrS6
def zrS7 : State := zrN zrT6 .long 28 500
set_option maxRecDepth 100000 in
theorem zr_a6 : zrC 3 zrS6 = true := by decide +kernel
set_option maxRecDepth 100000 in
theorem zr_b6 : zrA zrT6 .long 28 500 = true := by decide +kernel
def zrT7 : State := zrX 3 zrS7
def zrS8 : State := zrN zrT7 .long 28 500
set_option maxRecDepth 100000 in
theorem zr_a7 : zrC 3 zrS7 = true := by decide +kernel
set_option maxRecDepth 100000 in
theorem zr_b7 : zrA zrT7 .long 28 500 = true := by decide +kernel
def zrT8 : State := zrX 28 zrS8
set_option maxRecDepth 100000 in
theorem zr_a8 : zrC 28 zrS8 = true := by decide +kernel
set_option maxRecDepth 100000 in
theorem zr_end : (decide (zrT8.status = .running) && zrE zrT8.frames) = true := by decide +kernel
theorem zr_steps : Steps start1.p0.tables start1.e0 Lib.HandBits.below0 zrB zrT8 := ((zrC_ok _ _ zr_a0).trans ((zrA_ok zr_b0).trans ((zrC_ok _ _ zr_a1).trans ((zrA_ok zr_b1).trans ((zrC_ok _ _ zr_a2).trans ((zrA_ok zr_b2).trans ((zrC_ok _ _ zr_a3).trans ((zrA_ok zr_b3).trans ((zrC_ok _ _ zr_a4).trans ((zrA_ok zr_b4).trans ((zrC_ok _ _ zr_a5).trans ((zrA_ok zr_b5).trans ((zrC_ok _ _ zr_a6).trans ((zrA_ok zr_b6).trans ((zrC_ok _ _ zr_a7).trans ((zrA_ok zr_b7).trans (zrC_ok _ _ zr_a8)))))))))))))))))
theorem zr_ends : zrT8.status = Status.running ∧ ∃ a, Ended zrT8 Lib.HandBits.below0 (.threw a) := by
  have h := zr_end
  simp only [Bool.and_eq_true, decide_eq_true_eq] at h
  refine ⟨h.1, ?_⟩
  have h2 := h.2
  show ∃ a, zrT8.frames = .throwing a :: Lib.HandBits.below0
  generalize zrT8.frames = fs at h2
  match fs, h2 with
  | [a, f], h2 =>
    simp only [zrE, Bool.and_eq_true] at h2
    cases a with
    | throwing q => exact ⟨q, by rw [← zrF_eq h2.2]⟩
    | _ => simp [zrT] at h2
  | [], h2 => simp [zrE] at h2
  | [_], h2 => simp [zrE] at h2
  | _ :: _ :: _ :: _, h2 => simp [zrE] at h2

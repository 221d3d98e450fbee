theorem zin_obj1 : Cond.instanceMethod objectInit ∈ ztb := zmem 87 (by decide +kernel) (by decide +kernel)
theorem zin_obj2 : Cond.code objectInit ⟨#[0xb1]⟩ 1 none ∈ ztb := zmem 88 (by decide +kernel) (by decide +kernel)
theorem zin_math : Cond.initialized "java/lang/Math" ∈ ztb := zmem 71 (by decide +kernel) (by decide +kernel)
theorem zin_min1 : Cond.static Lib.Math.min.name ∈ ztb := zmem 263 (by decide +kernel) (by decide +kernel)
theorem zin_min2 : Cond.code Lib.Math.min.name Lib.Math.min.code 2 (some .int) ∈ ztb := zmem 264 (by decide +kernel) (by decide +kernel)
theorem zin_abs1 : Cond.static Lib.MathLoose.abs_long.x ∈ ztb := zmem 873 (by decide +kernel) (by decide +kernel)
theorem zin_abs2 : Cond.code Lib.MathLoose.abs_long.x Lib.MathLoose.abs_long.code 2 (some .long) ∈ ztb := zmem 874 (by decide +kernel) (by decide +kernel)
theorem zin_acp1 : Cond.native arraycopyName ∈ ztb := zmem 267 (by decide +kernel) (by decide +kernel)
theorem zin_acp2 : Cond.static arraycopyName ∈ ztb := zmem 266 (by decide +kernel) (by decide +kernel)
theorem zin_sys : Cond.initialized "java/lang/System" ∈ ztb := zmem 72 (by decide +kernel) (by decide +kernel)
theorem zin_arrB : Cond.arrayClass .byte ∈ ztb := zmem 106 (by decide +kernel) (by decide +kernel)
theorem zin_arrI : Cond.arrayClass .int ∈ ztb := zmem 168 (by decide +kernel) (by decide +kernel)
theorem zin_arrJ : Cond.arrayClass .long ∈ ztb := zmem 204 (by decide +kernel) (by decide +kernel)
theorem zin_insW : Cond.instantiable R_W 7 ∈ ztb := zmem 82 (by decide +kernel) (by decide +kernel)
theorem zin_iniW : Cond.initialized R_W ∈ ztb := zmem 62 (by decide +kernel) (by decide +kernel)
theorem zin_insT : Cond.instantiable R_T 3 ∈ ztb := zmem 90 (by decide +kernel) (by decide +kernel)
theorem zin_iniT : Cond.initialized R_T ∈ ztb := zmem 63 (by decide +kernel) (by decide +kernel)
theorem zin_insR : Cond.instantiable R_R 4 ∈ ztb := zmem 108 (by decide +kernel) (by decide +kernel)
theorem zin_iniR : Cond.initialized R_R ∈ ztb := zmem 64 (by decide +kernel) (by decide +kernel)
theorem zin_insG : Cond.instantiable R_G 7 ∈ ztb := zmem 135 (by decide +kernel) (by decide +kernel)
theorem zin_iniG : Cond.initialized R_G ∈ ztb := zmem 65 (by decide +kernel) (by decide +kernel)
theorem zin_insF : Cond.instantiable R_F 7 ∈ ztb := zmem 170 (by decide +kernel) (by decide +kernel)
theorem zin_iniF : Cond.initialized R_F ∈ ztb := zmem 66 (by decide +kernel) (by decide +kernel)
theorem zin_insH : Cond.instantiable R_H 1 ∈ ztb := zmem 206 (by decide +kernel) (by decide +kernel)
theorem zin_iniH : Cond.initialized R_H ∈ ztb := zmem 67 (by decide +kernel) (by decide +kernel)
theorem zin_insD : Cond.instantiable R_D 6 ∈ ztb := zmem 217 (by decide +kernel) (by decide +kernel)
theorem zin_iniD : Cond.initialized R_D ∈ ztb := zmem 68 (by decide +kernel) (by decide +kernel)
theorem zin_insP : Cond.instantiable R_P 2 ∈ ztb := zmem 245 (by decide +kernel) (by decide +kernel)
theorem zin_iniP : Cond.initialized R_P ∈ ztb := zmem 69 (by decide +kernel) (by decide +kernel)
theorem zin_insM : Cond.instantiable R_M 26 ∈ ztb := zmem 915 (by decide +kernel) (by decide +kernel)
theorem zin_iniM : Cond.initialized R_M ∈ ztb := zmem 73 (by decide +kernel) (by decide +kernel)
theorem zarrB {D : va_G} {cl : List vw_C} {cB cI cL cA : ClassId} {U : State} (h : va_K D cl ([(cB, .byte), (cI, .int), (cL, .long)] ++ [(cA, .byte)]) U) : cB = cA := Option.some.inj ((h.2 0 (cB, .byte) rfl).2.symm.trans (h.2 3 (cA, .byte) rfl).2)
theorem zarrI {D : va_G} {cl : List vw_C} {cB cI cL cA : ClassId} {U : State} (h : va_K D cl ([(cB, .byte), (cI, .int), (cL, .long)] ++ [(cA, .int)]) U) : cI = cA := Option.some.inj ((h.2 1 (cI, .int) rfl).2.symm.trans (h.2 3 (cA, .int) rfl).2)
theorem zarrJ {D : va_G} {cl : List vw_C} {cB cI cL cA : ClassId} {U : State} (h : va_K D cl ([(cB, .byte), (cI, .int), (cL, .long)] ++ [(cA, .long)]) U) : cL = cA := Option.some.inj ((h.2 2 (cL, .long) rfl).2.symm.trans (h.2 3 (cA, .long) rfl).2)
-- own rows: what a call makes is counted with its answer
def zca {α : Type} (c z : Nat) (x : Option (α × Nat × Nat)) : Option (α × Nat × Nat) := x.map (fun q => (q.1, c + q.2.1, z + q.2.2))
def zcbd {α β : Type} (x : Option (α × Nat × Nat)) (f : α → Option (β × Nat × Nat)) : Option (β × Nat × Nat) := x.bind (fun q => zca q.2.1 q.2.2 (f q.1))
theorem zle {x c t R : Nat} (h : x + c = t) (hR : t ≤ R) : x ≤ R := Nat.le_trans (Nat.le.intro h) hR
theorem zcae {α : Type} {C Z : Nat} {x : Option (α × Nat × Nat)} {b : α} {c z cells slots tc tz : Nat} (h : zca C Z x = some (b, c, z)) (hc : cells + c = tc) (hz : slots + z = tz) :
    ∃ c2 z2, x = some (b, c2, z2) ∧ (cells + C) + c2 = tc ∧ (slots + Z) + z2 = tz := by
  unfold zca at h
  cases x with
  | none => cases h
  | some q =>
    obtain ⟨a, c2, z2⟩ := q
    have h1 := Option.some.inj h
    simp only [Prod.mk.injEq] at h1
    obtain ⟨rfl, h2, h3⟩ := h1
    exact ⟨c2, z2, rfl, by omega, by omega⟩
theorem zcbde {α β : Type} {x : Option (α × Nat × Nat)} {f : α → Option (β × Nat × Nat)} {b : β} {c z cells slots tc tz : Nat} (h : zcbd x f = some (b, c, z)) (hc : cells + c = tc) (hz : slots + z = tz) :
    ∃ a c1 z1 c2 z2, x = some (a, c1, z1) ∧ f a = some (b, c2, z2) ∧ (cells + c1) + c2 = tc ∧ (slots + z1) + z2 = tz := by
  unfold zcbd at h
  cases x with
  | none => cases h
  | some q =>
    obtain ⟨a, c1, z1⟩ := q
    obtain ⟨c2, z2, h1, h2, h3⟩ := zcae (x := f a) h hc hz
    exact ⟨a, c1, z1, c2, z2, rfl, h1, h2, h3⟩
theorem zc0 {α : Type} {x a : α} {C Z c z : Nat} (h : some (x, C, Z) = some (a, c, z)) : x = a ∧ C = c ∧ Z = z := by
  have h1 := Option.some.inj h
  simp only [Prod.mk.injEq] at h1
  exact h1
section ZCR
variable {p : Program} {l : Launch} {e : Env} {R : Room} {s : State} {m : MethodId} {args : Array Value} {below : List Frame} {meth : Method} {c : Code} {H : Heap} {locs : List Loc} {cells slots mc ms : Nat} {Q : State → Prop}
variable {dC : Nat → ClassId} {dI : Nat → Nat → Nat} {A : Nat → Prop} {rest : List Value} {wc wr ws : va_W} {pc : Nat} {ls : Array Slot} {st0 : List Value}
theorem zcallr {S : Type} {post : S → Prop} {W1 : S → Nat → va_W} {av : Array Value} (hr : va_Run p l e R s m args below meth c H locs cells slots mc ms (F0 m pc ls st0) rest (va_Qr post (fun u a9 U => va_P (dC, dI) zcl (W1 u a9) U.heap ∧ va_D (va_A wc H.size) (W1 u a9)) (va_A wc H.size) av) (va_A wc H.size))
    (hP : va_P (dC, dI) zcl ws H) (hD : va_D A ws) (hS : va_S A s.heap H locs) (hA : ∀ q, s.heap.size ≤ q → A q) (isC isR : List Nat) (hC : isC.map (fun i => ws[i]?) = wc.map some) (hR : isR.map (fun i => ws[i]?) = wr.map some) (hn : va_nd isR = true) (hdis : ∀ i ∈ isR, i ∉ isC)
    (kk : ∀ (q : Nat) (u : S) (H1 : Heap) (locs1 : List Loc), post u → va_P (dC, dI) zcl (wr ++ W1 u q) H1 → va_D A (wr ++ W1 u q) → va_S A s.heap H1 locs1 → W p l e R s m args below meth c H1 locs1 (cells + mc) (slots + ms) Q (F0 m (pc + 3) ls (.ref q :: rest))) : W p l e R s m args below meth c H locs cells slots Q (F0 m pc ls st0) := by
  have hF : ∀ q, va_A wc H.size q → A q := va_free hD hS hA isC hC
  refine va_callr hr hS (fun q _ h => hF q h) hF (fun u ra t H1 locs1 ht hvm hw hB hz1 hk1 hS1 => ?_)
  obtain ⟨hP1, hD1⟩ := hB
  rw [ht] at hP1
  obtain ⟨h1, h2⟩ := va_join hP hD isC isR hC hR hn hdis hk1 hF hP1 hD1
  exact kk ra u H1 locs1 hw h1 h2 hS1
end ZCR
section ZCT
variable {p : Program} {l : Launch} {e : Env} {R : Room} {s : State} {m : MethodId} {args : Array Value} {below : List Frame} {meth : Method} {c : Code} {H : Heap} {locs : List Loc} {cells slots : Nat} {Q : State → Prop}
variable {D : va_G} {cl : List vw_C} {tys : List (ClassId × FieldType)} {ws : va_W} {A : Nat → Prop} {cc : ByteArray} {pc : Nat} {ls : Array Slot} {rest : List Value} {a : Nat}
/-- System.arraycopy out of a static array of longs that nobody writes (as the kit's va_copyx does it for the script) -/
theorem zcopyT (hexec : p.tables.exec = Jvm.exec) (hb : c.code = cc) (hml : c.maxLocals = ls.size) {own : String} {index : Nat} (hown : s.vm.findClass own = some m.cls) (hlink : (Cond.methodLink own index arraycopyName).before args s = true) (hnat : (Cond.native arraycopyName).before args s = true) (hstat : (Cond.static arraycopyName).before args s = true) (hini : (Cond.initialized "java/lang/System").before args s = true)
    (hK : va_K D cl tys s) (hP : va_P D cl ws H) (hD : va_D A ws) (hS : va_S A s.heap H locs) {b0 n0 : Nat} {f : Nat → Int64} (hX : va_T .long b0 n0 (fun j => .long (f j)) A s s.heap) (q1 t1 : Nat) {c1 : ClassId} {n1 : Nat} {g : Nat → Int64} (ha1 : ws[q1]? = some (a, .inl (c1, n1, .inr (.inl g)))) (ht1 : tys[t1]? = some (c1, .long))
    {sp dp n : Int32} (h1 : ¬ sp < 0) (h2 : ¬ dp < 0) (h3 : ¬ n < 0) (h4 : sp.toNatClampNeg + n.toNatClampNeg ≤ n0) (h5 : dp.toNatClampNeg + n.toNatClampNeg ≤ n1)
    (hframes : 1 ≤ R.frames) (hlocals : (rest.map fun v => v.category).sum + (nativeFrameWords "java/lang/System" "arraycopy" 5 + 11) ≤ R.locals) (hdg : decode cc pc = .ok (.invokestatic index, 3))
    (kk : ∀ (H1 : Heap) (locs1 : List Loc), va_P D cl (ws.set q1 (a, .inl (c1, n1, .inr (.inl (va_cpy f g sp.toNatClampNeg dp.toNatClampNeg n.toNatClampNeg))))) H1 → va_D A (ws.set q1 (a, .inl (c1, n1, .inr (.inl (va_cpy f g sp.toNatClampNeg dp.toNatClampNeg n.toNatClampNeg))))) → va_S A s.heap H1 locs1 → W p l e R s m args below meth c H1 locs1 cells slots Q (F0 m (pc + 3) ls rest)) : W p l e R s m args below meth c H locs cells slots Q (F0 m pc ls (.int n :: .int dp :: .ref a :: .int sp :: .ref b0 :: rest)) := by
  have nn : ∀ z : Int32, ¬ z < 0 → z.toInt = (z.toNatClampNeg : Int) := by
    intro z hz
    have hz0 : (0 : Int) ≤ z.toInt := by
      have := Int32.not_lt.mp hz
      simpa using Int32.le_iff_toInt_le.mp this
    show z.toInt = ((z.toInt.toNat : Nat) : Int)
    omega
  intro T hT X
  obtain ⟨scr, hs1, hs2, hs3, hs4, -, hs5, hbA⟩ := hX
  have hbl : b0 < s.heap.size := (Array.getElem?_eq_some_iff.mp hs1).1
  have hc0 : H[b0]? = some scr := by rw [hS.2.1 b0 hbl hbA]; exact hs1
  have hc1 : H[a]? = some (vp_cell c1 (n1, .inr (.inl g))) := hP q1 _ ha1
  obtain ⟨hs6, k0, hk0, cm0, hkk0⟩ := hs2
  obtain ⟨-, k1, hk1, cm1, hkk1⟩ := (hK.2 t1 _ ht1).1 n1 (fun j => .long (g j))
  obtain ⟨vm', X', step⟩ := X.arraycopy hexec hown hlink hnat hstat hini (src := b0) (dst := a) (cs := scr) (cd := vp_cell c1 (n1, .inr (.inl g))) (srcPos := sp) (destPos := dp) (n := n) (by rw [hT]; exact hc0) (by rw [hT]; exact hc1)
    hs6 (fun _ h => by cases h) hs3 (fun h => by cases h) hk0 hk1 hkk0 hkk1 (by simp [refKind]) h1 h2 h3
    (by rw [nn sp h1, nn n h3]; omega)
    (by rw [nn dp h2, nn n h3]; show ¬ _ > ((arrV c1 n1 (fun j => .long (g j))).slots.size : Int); rw [arrV_size]; omega)
    (fun vm₁ _ i hi => by
      have e : scr.slots.getD (sp.toNatClampNeg + i) .null = .long (f (sp.toNatClampNeg + i)) := by
        rw [Array.getD_eq_getD_getElem?, hs5 _ (by omega)]
        rfl
      refine ⟨?_, ?_⟩
      · rw [e]
        rfl
      · rw [e]
        exact trivial)
    (g := F0 m pc ls (.int n :: .int dp :: .ref a :: .int sp :: .ref b0 :: rest)) rfl (by rw [hml]) (rest := rest) rfl (by rw [hb]; exact hdg) hframes (by show 2 * 0 + _ + _ ≤ _; omega)
  have e1 : copied scr (vp_cell c1 (n1, .inr (.inl g))) sp dp n = vp_cell c1 (n1, .inr (.inl (va_cpy f g sp.toNatClampNeg dp.toNatClampNeg n.toNatClampNeg))) := va_copiedX (fun z => .long z) scr c1 f g hs5 h4
  rw [e1] at X' step
  have hl : a < H.size := (Array.getElem?_eq_some_iff.mp hc1).1
  have hheap : ((T.setVm vm').setCell a (vp_cell c1 (n1, .inr (.inl (va_cpy f g sp.toNatClampNeg dp.toNatClampNeg n.toNatClampNeg))))).heap = H.setIfInBounds a (vp_cell c1 (n1, .inr (.inl (va_cpy f g sp.toNatClampNeg dp.toNatClampNeg n.toNatClampNeg)))) := by rw [← hT]; rfl
  have oq : ∀ q : Nat, q ≠ a → (H.setIfInBounds a (vp_cell c1 (n1, .inr (.inl (va_cpy f g sp.toNatClampNeg dp.toNatClampNeg n.toNatClampNeg)))))[q]? = H[q]? := fun q hq => by simp [Array.getElem?_setIfInBounds, Ne.symm hq]
  obtain ⟨t, a1, b1⟩ := kk _ _ (hP.set hD ha1 (show (H.setIfInBounds a _)[a]? = some _ by simp [Array.getElem?_setIfInBounds, hl]) oq) (hD.set ha1) ⟨by simp; exact hS.1, fun q g1 g2 => by
      rw [oq q (fun e => g2 (by rw [e]; exact hD.2 q1 _ ha1))]
      exact hS.2.1 q g1 g2, fun q hq => by
      rcases List.mem_append.mp hq with h | h
      · exact hS.2.2 q h
      · obtain ⟨z, -, hz⟩ := List.mem_map.mp h
        rw [← hz]
        exact hD.2 q1 _ ha1⟩ _ hheap X'
  exact ⟨t, step t a1, b1⟩
end ZCT


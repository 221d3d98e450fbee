-- own rows: guards, branches, binds of the printed functions
noncomputable def zg {α : Type} (c : Prop) (x : Option α) : Option α := @ite _ c (Classical.propDecidable c) x none
theorem zgd {α : Type} {c : Prop} {x : Option α} {b : α} (h : zg c x = some b) : c ∧ x = some b := by
  unfold zg at h
  by_cases hc : c
  · rw [if_pos hc] at h; exact ⟨hc, h⟩
  · rw [if_neg hc] at h; cases h
theorem zg_t {α : Type} {c : Prop} {x : Option α} (h : c) : zg c x = x := by unfold zg; rw [if_pos h]
theorem zt {α : Type} {c : Prop} [Decidable c] {x y : Option α} {b : α} (h : (if c then x else y) = some b) (hc : c) : x = some b := by rw [if_pos hc] at h; exact h
theorem zf {α : Type} {c : Prop} [Decidable c] {x y : Option α} {b : α} (h : (if c then x else y) = some b) (hc : ¬ c) : y = some b := by rw [if_neg hc] at h; exact h
theorem zb {α β : Type} {x : Option α} {f : α → Option β} {b : β} (h : x.bind f = some b) : ∃ a, x = some a ∧ f a = some b := by
  cases x with
  | none => cases h
  | some a => exact ⟨a, rfl, h⟩
theorem zlook {ps : List (Int × Int)} {d k : Int} (h : ∀ q ∈ ps, q.1 ≠ k) : Op.lookupswitch.offset ps d k = d := by
  induction ps with
  | nil => rfl
  | cons q r ih =>
    obtain ⟨a, o⟩ := q
    rw [Op.lookupswitch.offset_cons, if_neg (h (a, o) List.mem_cons_self)]
    exact ih fun q hq => h q (List.mem_cons_of_mem _ hq)
theorem zne {x k : Int32} (h : ¬ x = k) : k.toInt ≠ x.toInt := fun e => h (Int32.toInt_inj.mp e.symm)
theorem zlohi {a b c d : Int} (h : ¬ (a < b ∨ c < d)) : ¬ a < b ∧ ¬ c < d := ⟨fun q => h (Or.inl q), fun q => h (Or.inr q)⟩
theorem zrng {x : Int32} {lo hi : Int} (h1 : ¬ x.toInt < lo) (h2 : ¬ hi < x.toInt) : ∃ j : Nat, j < (hi - lo).toNat + 1 ∧ x = Int32.ofInt (lo + j) := by
  refine ⟨(x.toInt - lo).toNat, by omega, ?_⟩
  have e : lo + ((x.toInt - lo).toNat : Int) = x.toInt := by omega
  rw [e, Int32.ofInt_toInt]
-- what holds of the method that is walked
def zx (p : Program) (s : State) (m : MethodId) (args : Array Value) (meth : Method) (c : Code) (R : Room) (own : String) (cc : ByteArray) (ret : Option FieldType) (nL F L : Nat) : Prop :=
  p.tables.exec = Jvm.exec ∧ c.code = cc ∧ meth.sig.returnType = ret ∧ c.maxLocals = nL ∧ s.vm.findClass own = some m.cls ∧ (∀ w ∈ ztb, w.before args s = true) ∧ meth.locks = false ∧ F ≤ R.frames ∧ L ≤ R.locals
def zw (y : MethodName) (bytes : ByteArray) (maxL : Nat) (ret : Option FieldType) : List Cond := Cond.code y bytes maxL ret :: ztb
theorem zx_of {p : Program} {l : Launch} {y : MethodName} {rm : Room} {cc : ByteArray} {maxL : Nat} {ret : Option FieldType} {e : Env} {s : State} {m : MethodId} {args : Array Value} {below : List Frame} {meth : Method} {c : Code} {s₁ : State} {F L : Nat}
    (B : BodyLoose p l y (headSpec (zw y cc maxL ret) rm) cc maxL ret e s m args below meth c s₁) (hml : c.maxLocals = maxL) (h1 : F ≤ rm.frames) (h2 : L ≤ rm.locals) : zx p s m args meth c rm y.cls cc ret maxL F L :=
  ⟨B.exec, B.bytes, B.returns, hml, findClass_of_methodNamed B.named, fun w h => atoms_spec (ws := zw y cc maxL ret) B.pre w (List.mem_cons_of_mem _ h), B.notSynchronized, h1, h2⟩
-- words on private members of a nest mate, and static arrays
def zisn : Cond → Bool
  | .fieldLinkNest .. => true
  | .methodLinkNest .. => true
  | .castable .. => true
  | .declares .. => true
  | _ => false
def zN : List Cond := lw_tbl.filter zisn
theorem zN_tab (w : Cond) (h : w ∈ zN) : w.onTables = true := by
  have h1 := (List.mem_filter.mp h).2
  cases w <;> first | rfl | (simp [zisn] at h1; done)
theorem zN_warm (w : Cond) (h : w ∈ zN) {s U : State} (hW : s.WarmedH U.vm) (hZ : va_Nw w s) : va_Nw w U := by
  have h1 := (List.mem_filter.mp h).2
  cases w <;> first | exact va_Nw.warmF hW hZ | exact va_Nw.warmM hW hZ | exact va_Nw.warmC hW hZ | exact va_Nw.warmD hW hZ | (simp [zisn] at h1; done)
theorem zmemN {w : Cond} (i : Nat) (h : lw_tbl[i]? = some w) (hg : zisn w = true) : w ∈ zN := List.mem_filter.mpr ⟨List.mem_of_getElem? h, hg⟩
def zsS : Nat → Int32 := fun j => ([0, 0, 3, 3, 7, 3, 10, 8, 1, 1, 9, 9, 3, 3, 11, 11, 1, 3, 1, 1, 1, 3, 1, 1, 3, 1, 0, 0, 11, 9, 0] : List Int32).getD j 0
def zsA : Nat → Int64 := fun j => ([-1, 0, -1, 65527, 0, 0, 0, 0, 0, 0, 3, 25, 0, -1, 2, -1, -1] : List Int64).getD j 0
def zsL : Nat → Int64 := fun j => ([0, 0, 16, 1200, 0, 0, 0, 0, 0, 0, 0, 0, 0, 41, 2, 0, 0] : List Int64).getD j 0
def zsM : Nat → Int64 := fun j => ([20, 4611686018427387903, 16, 4611686018427387903, 4611686018427387903, 4611686018427387903, 4611686018427387903, 4611686018427387903, 1152921504606846976, 1152921504606846976, 20, 16383, 0, 61, 4611686018427387903, 20, 20] : List Int64).getD j 0
def zst (C n d : String) (ty : FieldType) (N : Nat) (f : Nat → Value) (A : Nat → Prop) (U : State) : Prop := ∃ t : Nat, va_Z C n d (.ref t) A U U.heap ∧ va_T ty t N f A U U.heap ∧ ∃ cell : Cell, U.heap[t]? = some cell ∧ cell.slots.size = N
theorem zst.moved {C n d : String} {ty : FieldType} {N : Nat} {f : Nat → Value} {A B : Nat → Prop} {s U : State} {H : Heap} {locs : List Loc} (h : zst C n d ty N f A s) (hS : va_S A s.heap H locs) (hB : ∀ q, B q → A q) (hH : U.heap = H) (hvm : s.vm.Alike U.vm) : zst C n d ty N f B U := by
  obtain ⟨t, h1, h2, cell, h3, h4⟩ := h
  have hn : ¬ A t := by
    obtain ⟨_, _, _, _, _, _, _, h9⟩ := h2
    exact h9
  exact ⟨t, by rw [hH]; exact (va_Z.moved hvm (h1.kept hS.2.1)).narrow hB, by rw [hH]; exact (va_T.moved hvm (h2.kept hS.2.1)).narrow hB, cell, by rw [hH, hS.2.1 t (Array.getElem?_eq_some_iff.mp h3).1 hn]; exact h3, h4⟩
theorem zst.same {C n d : String} {ty : FieldType} {N : Nat} {f : Nat → Value} {A : Nat → Prop} {s U : State} (h : zst C n d ty N f A s) (hH : U.heap = s.heap) (hvm : s.vm = U.vm) : zst C n d ty N f A U := by
  obtain ⟨t, h1, h2, cell, h3, h4⟩ := h
  have ha : s.vm.Alike U.vm := by rw [hvm]; exact Vm.Alike.refl _
  exact ⟨t, by rw [hH]; exact va_Z.moved ha h1, by rw [hH]; exact va_T.moved ha h2, cell, by rw [hH]; exact h3, h4⟩
theorem zls_moved {C n d : String} {A : Nat → Prop} {s U : State} {H : Heap} {locs : List Loc} (hl : (Cond.laysStatic C n d).before #[] s = true) (hZ : va_Zq C n d A s s.heap) (hS : va_S A s.heap H locs) (hH : U.heap = H) (hvm : s.vm.Alike U.vm) : (Cond.laysStatic C n d).before #[] U = true := by
  obtain ⟨c, k, i, f, a, cell, hc, hi, hst, ha, hcell, hs, hcls, hlt, hty⟩ := Cond.laysStatic_spec hl
  have hna : ¬ A a := by
    have key : ∀ v, va_Z C n d v A s s.heap → ¬ A a := by
      intro v h
      obtain ⟨cf, kf, fi, f', a', cell', h1, -, -, h4, -, -, -, hn⟩ := h
      cases Option.some.inj (hi.symm.trans h1)
      cases Option.some.inj (ha.symm.trans h4)
      exact hn
    rcases hZ with h | ⟨t, h⟩
    · exact key _ h
    · exact key _ h
  have hcell' : H[a]? = some cell := by rw [hS.2.1 a (Array.getElem?_eq_some_iff.mp hcell).1 hna]; exact hcell
  have h2 : (Cond.laysStatic C n d).before #[] ({ s with heap := H } : State) = true := Cond.laysStatic_of (s := ({ s with heap := H } : State)) hc hi hst ha hcell' hs hcls hlt hty
  have h3 := Cond.laysStatic_setVm (s := ({ s with heap := H } : State)) hvm h2
  simp only [Cond.before, Cond.holds, Cond.value] at h3 ⊢
  rw [hH]
  exact h3
theorem zls_same {C n d : String} {s U : State} (hl : (Cond.laysStatic C n d).before #[] s = true) (hH : U.heap = s.heap) (hvm : s.vm = U.vm) : (Cond.laysStatic C n d).before #[] U = true := by
  have h3 := Cond.laysStatic_setVm (s := s) (vm' := U.vm) (by rw [hvm]; exact Vm.Alike.refl _) hl
  simp only [Cond.before, Cond.holds, Cond.value] at h3 ⊢
  rw [hH]
  exact h3
def zstat (A : Nat → Prop) (U : State) : Prop :=
  zst "WireCodec" "SHAPES" "[I" .int 31 (fun j => .int (zsS j)) A U ∧ zst "WireCodec$Parameters" "ABSENT" "[J" .long 17 (fun j => .long (zsA j)) A U ∧ zst "WireCodec$Parameters" "LEAST" "[J" .long 17 (fun j => .long (zsL j)) A U ∧ zst "WireCodec$Parameters" "MOST" "[J" .long 17 (fun j => .long (zsM j)) A U ∧
  va_Zq Bundle.tN "UNASSIGNED_STACK" Bundle.steD A U U.heap ∧ va_Zq Bundle.tN "SUPPRESSED_SENTINEL" Bundle.listD A U U.heap ∧
  (Cond.laysStatic Bundle.tN "UNASSIGNED_STACK" Bundle.steD).before #[] U = true ∧ (Cond.laysStatic Bundle.tN "SUPPRESSED_SENTINEL" Bundle.listD).before #[] U = true
theorem zstat_moved {A B : Nat → Prop} {s U : State} {H : Heap} {locs : List Loc} (h : zstat A s) (hS : va_S A s.heap H locs) (hB : ∀ q, B q → A q) (hH : U.heap = H) (hW : s.WarmedH U.vm) : zstat B U :=
  ⟨h.1.moved hS hB hH hW.alike, h.2.1.moved hS hB hH hW.alike, h.2.2.1.moved hS hB hH hW.alike, h.2.2.2.1.moved hS hB hH hW.alike,
    by rw [hH]; exact (va_Zq.moved hW.alike (h.2.2.2.2.1.kept hS.2.1)).narrow hB, by rw [hH]; exact (va_Zq.moved hW.alike (h.2.2.2.2.2.1.kept hS.2.1)).narrow hB,
    zls_moved h.2.2.2.2.2.2.1 h.2.2.2.2.1 hS hH hW.alike, zls_moved h.2.2.2.2.2.2.2 h.2.2.2.2.2.1 hS hH hW.alike⟩
theorem zstat_same {A : Nat → Prop} {s U : State} (h : zstat A s) (hH : U.heap = s.heap) (hvm : s.vm = U.vm) : zstat A U := by
  have ha : s.vm.Alike U.vm := by rw [hvm]; exact Vm.Alike.refl _
  exact ⟨h.1.same hH hvm, h.2.1.same hH hvm, h.2.2.1.same hH hvm, h.2.2.2.1.same hH hvm, by rw [hH]; exact va_Zq.moved ha h.2.2.2.2.1, by rw [hH]; exact va_Zq.moved ha h.2.2.2.2.2.1, zls_same h.2.2.2.2.2.2.1 hH hvm, zls_same h.2.2.2.2.2.2.2 hH hvm⟩
-- what holds of the tables and of what was there at the start
def zk (dC : Nat → ClassId) (dI : Nat → Nat → Nat) (cB cI cL : ClassId) (A : Nat → Prop) (U : State) : Prop :=
  va_K (dC, dI) zcl [(cB, .byte), (cI, .int), (cL, .long)] U ∧ (∀ w ∈ zN, va_Nw w U) ∧ zstat A U ∧ ∀ q ∈ zSt, ∃ a, vk_R q.1 q.2.1 q.2.2 a U
theorem zk.moved {dC : Nat → ClassId} {dI : Nat → Nat → Nat} {cB cI cL : ClassId} {A B : Nat → Prop} {s U : State} {H : Heap} {locs : List Loc} (h : zk dC dI cB cI cL A s) (hS : va_S A s.heap H locs) (hB : ∀ q, B q → A q) (hH : U.heap = H) (hW : s.WarmedH U.vm) : zk dC dI cB cI cL B U :=
  ⟨va_K.moved hW.alike h.1, fun w hw => zN_warm w hw hW (h.2.1 w hw), zstat_moved h.2.2.1 hS hB hH hW, fun q hq => by obtain ⟨a, ha⟩ := h.2.2.2 q hq; exact ⟨a, ha.warm hW⟩⟩
def zpre (dC : Nat → ClassId) (dI : Nat → Nat → Nat) (cB cI cL : ClassId) (sz : Nat) (w : va_W) : State → Prop := fun U =>
  U.heap.size = sz ∧ va_P (dC, dI) zcl w U.heap ∧ zk dC dI cB cI cL (va_A w sz) U ∧ va_D (fun _ => True) w
theorem zpre_blind {dC : Nat → ClassId} {dI : Nat → Nat → Nat} {cB cI cL : ClassId} {sz : Nat} {w : va_W} {av : List Value} : FrameBlind (va_Pc av (zpre dC dI cB cI cL sz w)) := fun a' U g mk h =>
  ⟨h.1, h.2.1, h.2.2.1, ⟨va_K.moved (u := U) (U := U.calling g mk a') (Vm.Alike.refl U.vm) h.2.2.2.1.1, fun v hv => va_Nw.same (zN_tab v hv) (u := U) (U := U.calling g mk a') rfl (h.2.2.2.1.2.1 v hv), zstat_same h.2.2.2.1.2.2.1 rfl rfl, fun q hq => by obtain ⟨a, ha⟩ := h.2.2.2.1.2.2.2 q hq; exact ⟨a, vk_R.same (u := U) (U := U.calling g mk a') rfl ha⟩⟩, h.2.2.2.2⟩
def zy (y : MethodName) (bytes : ByteArray) (maxL : Nat) (ret : Option FieldType) (n : Nat) : Prop :=
  Cond.code y bytes maxL ret ∈ ztb ∧ Cond.initialized y.cls ∈ ztb ∧ (y.cls ≠ "java/lang/invoke/MethodHandle" ∧ y.cls ≠ "java/lang/invoke/VarHandle" ∧ (parseMethodDescriptor y.desc).map (fun d => d.parameters.length) = some n)
theorem zgood {y : MethodName} {bytes : ByteArray} {maxL : Nat} {ret : Option FieldType} {n : Nat} (h : zy y bytes maxL ret n) : GoodIn ztb (zw y bytes maxL ret) := by
  intro w hw
  rcases List.mem_cons.mp hw with rfl | hw
  · exact ⟨h.1, Or.inl rfl⟩
  · exact ⟨hw, ztbl_ok w hw⟩
section ZR
variable {p : Program} {l : Launch} {e : Env} {R : Room} {s : State} {m : MethodId} {args : Array Value} {below : List Frame} {meth : Method} {c : Code} {H : Heap} {locs : List Loc} {cells slots : Nat} {Q : State → Prop}
variable {dC : Nat → ClassId} {dI : Nat → Nat → Nat} {cB cI cL : ClassId} {A : Nat → Prop} {own : String} {cc : ByteArray} {ret0 : Option FieldType} {nL F L : Nat} {y : MethodName} {bytes : ByteArray} {maxL : Nat} {ret : Option FieldType} {rm : Room} {Qc : Array Value → State → Outcome → State → Prop} {mc ms n idx : Nat} {b : Addr} {As rest : List Value} {wc wr ws : va_W} {pc : Nat} {ls : Array Slot} {lv : List (Nat × Value)} {st0 : List Value}
theorem zpreS {av : List Value} (zz : zk dC dI cB cI cL A s) (hP : va_P (dC, dI) zcl ws H) (hD : va_D A ws) (hS : va_S A s.heap H locs) (hA : ∀ q, s.heap.size ≤ q → A q) (isC : List Nat) (hn : va_nd isC = true) (hC : isC.map (fun i => ws[i]?) = wc.map some) :
    PreS s H (va_Pc av (zpre dC dI cB cI cL H.size wc)) av := by
  have hF : ∀ q, va_A wc H.size q → A q := va_free hD hS hA isC hC
  have hPc : va_P (dC, dI) zcl wc H := hP.sub isC (by
    have h1 : isC.filterMap (fun i => ws[i]?) = (isC.map (fun i => ws[i]?)).filterMap id := by simp
    rw [h1, hC]; simp)
  have hDc : va_D A wc := hD.sub isC hn hC
  exact ⟨zpre_blind, fun U hU hW => ⟨rfl, by rw [hU], by rw [hU]; exact hPc, zz.moved hS hF hU hW, hDc.weaken (fun _ _ _ _ => trivial)⟩⟩
theorem zcb (X : zx p s m args meth c R own cc ret0 nL F L) (hy : zy y bytes maxL ret n) (hl : (Cond.methodLink own idx y).before args s = true) (hrc : rm.cells = mc) (hrs : rm.slots = ms) (hR : rm.frames + 1 ≤ R.frames ∧ 8 + (maxL + 11) + rm.locals ≤ R.locals) :
    CallB R s args own idx y bytes maxL ret (zw y bytes maxL ret) rm mc ms n :=
  callB_of n X.2.2.2.2.2.1 (zgood hy) rfl hrc hrs (X.2.2.2.2.2.1 _ hy.2.1) hl hy.2.2 hR
theorem zfix (X : zx p s m args meth c R own cc ret0 nL F L) : CallFix p m c cc nL s args ztb own := ⟨X.1, X.2.1, X.2.2.2.1, X.2.2.2.2.1, X.2.2.2.2.2.1⟩
theorem zrunV (X : zx p s m args meth c R own cc ret0 nL F L) (zz : zk dC dI cB cI cL A s) (hP : va_P (dC, dI) zcl ws H) (hD : va_D A ws) (hS : va_S A s.heap H locs) (hA : ∀ q, s.heap.size ≤ q → A q) (isC : List Nat) (hnd : va_nd isC = true) (hC : isC.map (fun i => ws[i]?) = wc.map some)
    (hM : Met l y (zw y bytes maxL ret) rm (va_Pc (.ref b :: As) (zpre dC dI cB cI cL H.size wc)) Qc mc ms (va_A wc H.size)) (hy : zy y bytes maxL ret n) (hv : Cond.instanceMethod y ∈ ztb ∧ Cond.selects y.cls y y ∈ ztb) (hl : (Cond.methodLink own idx y).before args s = true) (hls : lv_has ls nL lv)
    (hst : st0 = As.reverse ++ .ref b :: rest) (hn : As.length = n) (hdg : decode cc pc = .ok (.invokevirtual idx, 3)) (hW : 2 * (F0 m pc ls st0).monitorRoom + (rest.map fun v => v.category).sum ≤ 8) (hrc : rm.cells = mc) (hrs : rm.slots = ms) (hR : rm.frames + 1 ≤ R.frames ∧ 8 + (maxL + 11) + rm.locals ≤ R.locals) (hf : cells + mc ≤ R.cells ∧ slots + ms ≤ R.slots)
    (q0 ci : Nat) {fs : List Value} {T : u_T} {k : Nat} (he : wc[q0]? = some (b, .inr (ci, fs))) (hc : zcl[ci]? = some (y.cls, T, k)) :
    va_Run p l e R s m args below meth c H locs cells slots mc ms (F0 m pc ls st0) rest (Qc (Value.ref b :: As).toArray) (va_A wc H.size) := by
  have hp := zpreS (av := .ref b :: As) zz hP hD hS hA isC hnd hC
  have hPc : va_P (dC, dI) zcl wc H := hP.sub isC (by
    have h1 : isC.filterMap (fun i => ws[i]?) = (isC.map (fun i => ws[i]?)).filterMap id := by simp
    rw [h1, hC]; simp)
  exact va_runV (C := y.cls) (zfix X) hM ⟨zcb X hy hl hrc hrs hR, X.2.2.2.2.2.1 _ hv.1, X.2.2.2.2.2.1 _ hv.2⟩ ⟨hp.1, va_recv zz.1 hPc (ci := ci) (q0 := q0) hc he, hp.2⟩ rfl hn hls.1 hst hW hdg hf
theorem zrunS (X : zx p s m args meth c R own cc ret0 nL F L) (zz : zk dC dI cB cI cL A s) (hP : va_P (dC, dI) zcl ws H) (hD : va_D A ws) (hS : va_S A s.heap H locs) (hA : ∀ q, s.heap.size ≤ q → A q) (isC : List Nat) (hnd : va_nd isC = true) (hC : isC.map (fun i => ws[i]?) = wc.map some)
    (hM : Met l y (zw y bytes maxL ret) rm (va_Pc As (zpre dC dI cB cI cL H.size wc)) Qc mc ms (va_A wc H.size)) (hy : zy y bytes maxL ret n) (hv : Cond.static y ∈ ztb) (hl : (Cond.methodLink own idx y).before args s = true) (hls : lv_has ls nL lv)
    (hst : st0 = As.reverse ++ rest) (hn : As.length = n) (hdg : decode cc pc = .ok (.invokestatic idx, 3)) (hW : 2 * (F0 m pc ls st0).monitorRoom + (rest.map fun v => v.category).sum ≤ 8) (hrc : rm.cells = mc) (hrs : rm.slots = ms) (hR : rm.frames + 1 ≤ R.frames ∧ 8 + (maxL + 11) + rm.locals ≤ R.locals) (hf : cells + mc ≤ R.cells ∧ slots + ms ≤ R.slots) :
    va_Run p l e R s m args below meth c H locs cells slots mc ms (F0 m pc ls st0) rest (Qc As.toArray) (va_A wc H.size) := by
  have hp := zpreS (av := As) zz hP hD hS hA isC hnd hC
  exact va_runS (zfix X) hM ⟨zcb X hy hl hrc hrs hR, X.2.2.2.2.2.1 _ hv⟩ hp rfl hn hls.1 hst hW hdg hf
theorem zcn {host : String} (X : zx p s m args meth c R own cc ret0 nL F L) (hy : zy y bytes maxL ret n) (hl : va_Nw (.methodLinkNest own idx y host) s) (hrc : rm.cells = mc) (hrs : rm.slots = ms) (hR : rm.frames + 1 ≤ R.frames ∧ 8 + (maxL + 11) + rm.locals ≤ R.locals) :
    va_CN R s args own idx y host bytes maxL ret (zw y bytes maxL ret) rm mc ms n :=
  va_cnB n X.2.2.2.2.2.1 (zgood hy) rfl hrc hrs hl (X.2.2.2.2.2.1 _ hy.2.1) hy.2.2 hR
theorem zrunSN {host : String} (X : zx p s m args meth c R own cc ret0 nL F L) (zz : zk dC dI cB cI cL A s) (hP : va_P (dC, dI) zcl ws H) (hD : va_D A ws) (hS : va_S A s.heap H locs) (hA : ∀ q, s.heap.size ≤ q → A q) (isC : List Nat) (hnd : va_nd isC = true) (hC : isC.map (fun i => ws[i]?) = wc.map some)
    (hM : Met l y (zw y bytes maxL ret) rm (va_Pc As (zpre dC dI cB cI cL H.size wc)) Qc mc ms (va_A wc H.size)) (hy : zy y bytes maxL ret n) (hv : Cond.static y ∈ ztb) (hl : va_Nw (.methodLinkNest own idx y host) s) (hls : lv_has ls nL lv)
    (hst : st0 = As.reverse ++ rest) (hn : As.length = n) (hdg : decode cc pc = .ok (.invokestatic idx, 3)) (hW : 2 * (F0 m pc ls st0).monitorRoom + (rest.map fun v => v.category).sum ≤ 8) (hrc : rm.cells = mc) (hrs : rm.slots = ms) (hR : rm.frames + 1 ≤ R.frames ∧ 8 + (maxL + 11) + rm.locals ≤ R.locals) (hf : cells + mc ≤ R.cells ∧ slots + ms ≤ R.slots) :
    va_Run p l e R s m args below meth c H locs cells slots mc ms (F0 m pc ls st0) rest (Qc As.toArray) (va_A wc H.size) := by
  have hp := zpreS (av := As) zz hP hD hS hA isC hnd hC
  exact va_runSN (zfix X) hM ⟨zcn X hy hl hrc hrs hR, X.2.2.2.2.2.1 _ hv, trivial⟩ hp rfl hn hls.1 hst hW hdg hf
theorem zrunI (X : zx p s m args meth c R own cc ret0 nL F L) (zz : zk dC dI cB cI cL A s) (hP : va_P (dC, dI) zcl ws H) (hD : va_D A ws) (hS : va_S A s.heap H locs) (hA : ∀ q, s.heap.size ≤ q → A q) (isC : List Nat) (hnd : va_nd isC = true) (hC : isC.map (fun i => ws[i]?) = wc.map some)
    (hM : Met l y (zw y bytes maxL none) rm (va_Pc (.ref b :: As) (zpre dC dI cB cI cL H.size wc)) Qc mc ms (va_A wc H.size)) (hy : zy y bytes maxL none n) (hv : Cond.instanceMethod y ∈ ztb) (hnm : y.name = "<init>") (hl : (Cond.methodLink own idx y).before args s = true) (hls : lv_has ls nL lv)
    (hst : st0 = As.reverse ++ .ref b :: rest) (hn : As.length = n) (hdg : decode cc pc = .ok (.invokespecial idx, 3)) (hW : 2 * (F0 m pc ls st0).monitorRoom + (rest.map fun v => v.category).sum ≤ 8) (hrc : rm.cells = mc) (hrs : rm.slots = ms) (hR : rm.frames + 1 ≤ R.frames ∧ 8 + (maxL + 11) + rm.locals ≤ R.locals) (hf : cells + mc ≤ R.cells ∧ slots + ms ≤ R.slots) :
    va_Run p l e R s m args below meth c H locs cells slots mc ms (F0 m pc ls st0) rest (Qc (Value.ref b :: As).toArray) (va_A wc H.size) := by
  have hp := zpreS (av := .ref b :: As) zz hP hD hS hA isC hnd hC
  exact va_runI (zfix X) hM ⟨zcb X hy hl hrc hrs hR, hnm, X.2.2.2.2.2.1 _ hv⟩ hp rfl hn hls.1 hst hW hdg hf
theorem zrunIN {host : String} (X : zx p s m args meth c R own cc ret0 nL F L) (zz : zk dC dI cB cI cL A s) (hP : va_P (dC, dI) zcl ws H) (hD : va_D A ws) (hS : va_S A s.heap H locs) (hA : ∀ q, s.heap.size ≤ q → A q) (isC : List Nat) (hnd : va_nd isC = true) (hC : isC.map (fun i => ws[i]?) = wc.map some)
    (hM : Met l y (zw y bytes maxL none) rm (va_Pc (.ref b :: As) (zpre dC dI cB cI cL H.size wc)) Qc mc ms (va_A wc H.size)) (hy : zy y bytes maxL none n) (hv : Cond.instanceMethod y ∈ ztb) (hnm : y.name = "<init>") (hl : va_Nw (.methodLinkNest own idx y host) s) (hls : lv_has ls nL lv)
    (hst : st0 = As.reverse ++ .ref b :: rest) (hn : As.length = n) (hdg : decode cc pc = .ok (.invokespecial idx, 3)) (hW : 2 * (F0 m pc ls st0).monitorRoom + (rest.map fun v => v.category).sum ≤ 8) (hrc : rm.cells = mc) (hrs : rm.slots = ms) (hR : rm.frames + 1 ≤ R.frames ∧ 8 + (maxL + 11) + rm.locals ≤ R.locals) (hf : cells + mc ≤ R.cells ∧ slots + ms ≤ R.slots) :
    va_Run p l e R s m args below meth c H locs cells slots mc ms (F0 m pc ls st0) rest (Qc (Value.ref b :: As).toArray) (va_A wc H.size) := by
  have hp := zpreS (av := .ref b :: As) zz hP hD hS hA isC hnd hC
  exact va_runIN (zfix X) hM ⟨zcn X hy hl hrc hrs hR, hnm, X.2.2.2.2.2.1 _ hv⟩ hp rfl hn hls.1 hst hW hdg hf
theorem zcalli {S : Type} {post : Int32 → S → Prop} {W1 : S → va_W} {av : Array Value} (hr : va_Run p l e R s m args below meth c H locs cells slots mc ms (F0 m pc ls st0) rest (va_Qi post (fun u U => va_P (dC, dI) zcl (W1 u) U.heap ∧ va_D (va_A wc H.size) (W1 u)) (va_A wc H.size) av) (va_A wc H.size))
    (hP : va_P (dC, dI) zcl ws H) (hD : va_D A ws) (hS : va_S A s.heap H locs) (hA : ∀ q, s.heap.size ≤ q → A q) (isC isR : List Nat) (hC : isC.map (fun i => ws[i]?) = wc.map some) (hR : isR.map (fun i => ws[i]?) = wr.map some) (hn : va_nd isR = true) (hdis : ∀ i ∈ isR, i ∉ isC)
    (kk : ∀ (r : Int32) (u : S) (H1 : Heap) (locs1 : List Loc), post r u → va_P (dC, dI) zcl (wr ++ W1 u) H1 → va_D A (wr ++ W1 u) → va_S A s.heap H1 locs1 → W p l e R s m args below meth c H1 locs1 (cells + mc) (slots + ms) Q (F0 m (pc + 3) ls (.int r :: rest))) : W p l e R s m args below meth c H locs cells slots Q (F0 m pc ls st0) := by
  have hF : ∀ q, va_A wc H.size q → A q := va_free hD hS hA isC hC
  refine va_calli hr hS (fun q _ h => hF q h) hF (fun r u t H1 locs1 ht hvm hw hB hz1 hk1 hS1 => ?_)
  obtain ⟨hP1, hD1⟩ := hB
  rw [ht] at hP1
  obtain ⟨h1, h2⟩ := va_join hP hD isC isR hC hR hn hdis hk1 hF hP1 hD1
  exact kk r u H1 locs1 hw h1 h2 hS1
theorem zcalll {S : Type} {post : Int64 → S → Prop} {W1 : S → va_W} {av : Array Value} (hr : va_Run p l e R s m args below meth c H locs cells slots mc ms (F0 m pc ls st0) rest (va_Ql post (fun u U => va_P (dC, dI) zcl (W1 u) U.heap ∧ va_D (va_A wc H.size) (W1 u)) (va_A wc H.size) av) (va_A wc H.size))
    (hP : va_P (dC, dI) zcl ws H) (hD : va_D A ws) (hS : va_S A s.heap H locs) (hA : ∀ q, s.heap.size ≤ q → A q) (isC isR : List Nat) (hC : isC.map (fun i => ws[i]?) = wc.map some) (hR : isR.map (fun i => ws[i]?) = wr.map some) (hn : va_nd isR = true) (hdis : ∀ i ∈ isR, i ∉ isC)
    (kk : ∀ (r : Int64) (u : S) (H1 : Heap) (locs1 : List Loc), post r u → va_P (dC, dI) zcl (wr ++ W1 u) H1 → va_D A (wr ++ W1 u) → va_S A s.heap H1 locs1 → W p l e R s m args below meth c H1 locs1 (cells + mc) (slots + ms) Q (F0 m (pc + 3) ls (.long r :: rest))) : W p l e R s m args below meth c H locs cells slots Q (F0 m pc ls st0) := by
  have hF : ∀ q, va_A wc H.size q → A q := va_free hD hS hA isC hC
  refine va_calll hr hS (fun q _ h => hF q h) hF (fun r u t H1 locs1 ht hvm hw hB hz1 hk1 hS1 => ?_)
  obtain ⟨hP1, hD1⟩ := hB
  rw [ht] at hP1
  obtain ⟨h1, h2⟩ := va_join hP hD isC isR hC hR hn hdis hk1 hF hP1 hD1
  exact kk r u H1 locs1 hw h1 h2 hS1
theorem zcallv {S : Type} {post : S → Prop} {W1 : S → va_W} {av : Array Value} (hr : va_Run p l e R s m args below meth c H locs cells slots mc ms (F0 m pc ls st0) rest (va_Qv post (fun u U => va_P (dC, dI) zcl (W1 u) U.heap ∧ va_D (va_A wc H.size) (W1 u)) (va_A wc H.size) av) (va_A wc H.size))
    (hP : va_P (dC, dI) zcl ws H) (hD : va_D A ws) (hS : va_S A s.heap H locs) (hA : ∀ q, s.heap.size ≤ q → A q) (isC isR : List Nat) (hC : isC.map (fun i => ws[i]?) = wc.map some) (hR : isR.map (fun i => ws[i]?) = wr.map some) (hn : va_nd isR = true) (hdis : ∀ i ∈ isR, i ∉ isC)
    (kk : ∀ (u : S) (H1 : Heap) (locs1 : List Loc), post u → va_P (dC, dI) zcl (wr ++ W1 u) H1 → va_D A (wr ++ W1 u) → va_S A s.heap H1 locs1 → W p l e R s m args below meth c H1 locs1 (cells + mc) (slots + ms) Q (F0 m (pc + 3) ls rest)) : W p l e R s m args below meth c H locs cells slots Q (F0 m pc ls st0) := by
  have hF : ∀ q, va_A wc H.size q → A q := va_free hD hS hA isC hC
  refine va_callv hr hS (fun q _ h => hF q h) hF (fun u t H1 locs1 ht hvm hw hB hz1 hk1 hS1 => ?_)
  obtain ⟨hP1, hD1⟩ := hB
  rw [ht] at hP1
  obtain ⟨h1, h2⟩ := va_join hP hD isC isR hC hR hn hdis hk1 hF hP1 hD1
  exact kk u H1 locs1 hw h1 h2 hS1
end ZR

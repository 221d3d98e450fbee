-- own rows: a method that may throw
def zFE (st t : State) (L : List Loc) (k n : Nat) : Prop := st.WarmedH t.vm ∧ st.sameButNew ({ t with vm := st.vm } : State) L k n
def zMQ (below : List Frame) (Qc : Array Value → State → Outcome → State → Prop) (a : Array Value) (s : State) (mc ms : Nat) (free : Addr → Prop) : State → Prop := fun t =>
  ∃ o, t.status = .running ∧ Ended t below o ∧ Qc a s o t ∧ ∃ L, zFE s t L mc ms ∧ ∀ q ∈ L, free q.base
def zMet (l : Launch) (y : MethodName) (ws : List Cond) (rm : Room) (Pc : Array Value → State → Prop) (Qc : Array Value → State → Outcome → State → Prop) (mc ms : Nat) (free : Addr → Prop) : Prop :=
  MetFree l y (headSpec ws rm) Pc (fun _ _ _ _ _ => True) (fun a st o t => Qc a st o t ∧ ∃ L, zFE st t L mc ms ∧ ∀ q ∈ L, free q.base)
theorem zMet.ofW {l : Launch} {y : MethodName} {ws ws' : List Cond} {rm : Room} {Pc : Array Value → State → Prop} {Qc : Array Value → State → Outcome → State → Prop} {mc ms : Nat} {free : Addr → Prop} {cc : ByteArray} {maxL : Nat} {ret : Option FieldType}
    (hy : plainName y.cls = true) (hw : ws = Cond.code y cc maxL ret :: ws')
    (body : ∀ p e s m args below meth c s₁, BodyLoose p l y (headSpec ws rm) cc maxL ret e s m args below meth c s₁ → c.maxLocals = maxL → Pc args s →
      W p l e (headSpec ws rm).room s m args below meth c s.heap [] 0 0 (zMQ below Qc args s mc ms free) (entryFrame m args maxL)) : zMet l y ws rm Pc Qc mc ms free := by
  refine MetFree.of_bodyS (code := cc) (maxLocals := maxL) (ret := ret) hy ?_ ?_
  · intro args s m h hn
    obtain ⟨meth, c, h1, h2, h3, h4, h5, h6, -, -⟩ := Cond.code_spec hn (atoms_spec (ws := ws) h _ (by rw [hw]; exact List.mem_cons_self))
    exact ⟨meth, c, h1, h2, h3, h4, h5, h6⟩
  · intro p e s m args below meth c s₁ B hml hP _
    have hh0 : s₁.heap = s.heap := by rw [B.state]; rfl
    obtain ⟨t, a1, o, b1, b2, b3⟩ := body p e s m args below meth c s₁ B hml hP s₁ hh0 (Stand.of_body B)
    exact ⟨t, o, a1, b1, b2, b3⟩
section ZX
variable {p : Program} {l : Launch} {e : Env} {R : Room} {s : State} {m : MethodId} {args : Array Value} {below : List Frame} {meth : Method} {c : Code} {H : Heap} {locs : List Loc} {cells slots : Nat} {Q : State → Prop}
theorem zup {Qc Qc' : Array Value → State → Outcome → State → Prop} {free : Addr → Prop} {mc ms : Nat} {g : JFrame} (h : ∀ o t, Qc args s o t → Qc' args s o t) (k : W p l e R s m args below meth c H locs cells slots (MQ below Qc args s mc ms free) g) : W p l e R s m args below meth c H locs cells slots (zMQ below Qc' args s mc ms free) g := by
  intro T hT X
  obtain ⟨t, a, o, h1, h2, h3, L, h4, h5⟩ := k T hT X
  exact ⟨t, a, o, h1, h2, h o t h3, L, ⟨h4.2.1, h4.2.2⟩, h5⟩
end ZX
def zE : Nat → String
  | 1 => "java/lang/IllegalArgumentException"
  | 2 => "java/lang/IllegalStateException"
  | _ => "java/util/NoSuchElementException"
def zthr (k : Nat) (q : Addr) (st t : State) : Prop := st.heap.size ≤ q ∧ ∃ ce : Cell, t.heap[q]? = some ce ∧ ce.vm = .none ∧ st.vm.findClass (zE k) = some ce.cls
def zQx {α S : Type} (mk : α → Option Value) (post : α ⊕ Nat → S → Prop) (D : va_G) (W1 : S → va_W) (A : Nat → Prop) : Array Value → State → Outcome → State → Prop := fun _ st o t =>
  ∃ u : S, va_P D zcl (W1 u) t.heap ∧ va_D A (W1 u) ∧ va_F A st t ∧ ((∃ r : α, o = .returned (mk r) ∧ post (.inl r) u) ∨ ∃ (k : Nat) (q : Addr), o = .threw q ∧ post (.inr k) u ∧ zthr k q st t)
-- the words that a throw needs
def zsp : List Cond := [.laysStatic Bundle.tN "UNASSIGNED_STACK" Bundle.steD, .laysStatic Bundle.tN "SUPPRESSED_SENTINEL" Bundle.listD, .isRef (.static Bundle.tN "UNASSIGNED_STACK" Bundle.steD), .isRef (.static Bundle.tN "SUPPRESSED_SENTINEL" Bundle.listD)]
def znames : Nat → List String := fun _ => ["java/lang/RuntimeException", "java/lang/Exception"]
theorem zZeval {C n d : String} {v : Value} {A : Nat → Prop} {s : State} {args : Array Value} (h : va_Z C n d v A s s.heap) : (Term.static C n d).eval args s none [] s = some v := by
  obtain ⟨cf, kf, fi, f, a, cell, h1, h2, h3, h4, h5, h6, h7, -⟩ := h
  simp [Term.eval, State.fieldNamed?, h1, h2, h4, h5, h6, h7]
theorem zsp_ok {A : Nat → Prop} {s : State} {args : Array Value} (h : zstat A s) : ∀ w ∈ zsp, w.before args s = true := by
  have hr : ∀ {n d : String}, va_Zq Bundle.tN n d A s s.heap → (Cond.isRef (.static Bundle.tN n d)).before args s = true := by
    intro n d hz
    rcases hz with hz | ⟨t, hz⟩
    · have e := zZeval (args := args) hz
      simp [Cond.before, Cond.holds, Cond.value, e]
    · have e := zZeval (args := args) hz
      simp [Cond.before, Cond.holds, Cond.value, e]
  intro w hw
  simp only [zsp, List.mem_cons, List.not_mem_nil, or_false] at hw
  rcases hw with rfl | rfl | rfl | rfl
  · exact h.2.2.2.2.2.2.1
  · exact h.2.2.2.2.2.2.2
  · exact hr h.2.2.2.2.1
  · exact hr h.2.2.2.2.2.1
def zown (own : String) (ic : Nat) (X : String) (ix : Nat) (bx : ByteArray) : List Cond :=
  Bundle.throwableAtoms ++ Bundle.throwableSAtoms ++ (Bundle.passSAtoms X "java/lang/RuntimeException" ix bx ++ Bundle.chainSAtoms "java/lang/RuntimeException" ["java/lang/Exception"]) ++
  [.methodLink own ic (Bundle.initS X), .instantiable X 6, .castable X X, .selects X Bundle.tFill0 Bundle.tFill0, .selects X Bundle.tFill Bundle.tFill,
   .lays X Bundle.tN "cause" "Ljava/lang/Throwable;", .lays X Bundle.tN "stackTrace" Bundle.steD, .lays X Bundle.tN "suppressedExceptions" Bundle.listD, .lays X Bundle.tN "detailMessage" "Ljava/lang/String;",
   .isRef (.static Bundle.tN "UNASSIGNED_STACK" Bundle.steD), .isRef (.static Bundle.tN "SUPPRESSED_SENTINEL" Bundle.listD),
   .fieldLink Bundle.tN 198 Bundle.tN "backtrace" "Ljava/lang/Object;", .lays Bundle.tN Bundle.tN "backtrace" "Ljava/lang/Object;", .lays X Bundle.tN "backtrace" "Ljava/lang/Object;"]
def zIx : Nat → Nat
  | 3 => 13
  | _ => 7
def zBx : Nat → ByteArray
  | 3 => ⟨#[0x2a, 0x2b, 0xb7, 0x00, 0x0d, 0xb1]⟩
  | _ => ⟨#[0x2a, 0x2b, 0xb7, 0x00, 0x07, 0xb1]⟩
def zCdec (ix : Nat) (bx : ByteArray) : Prop := decode bx 0 = .ok (.aload_n 0, 1) ∧ decode bx 1 = .ok (.aload_n 1, 1) ∧ decode bx 2 = .ok (.invokespecial ix, 3) ∧ decode bx 5 = .ok (.return_, 1)
def zhas (w : Cond) : Bool := (goodWord w && decide (w ∈ lw_tbl)) || (zisn w && decide (w ∈ lw_tbl)) || decide (w ∈ zsp)
theorem zatoms {own : String} {ic k : Nat} (hall : (zown own ic (zE k) (zIx k) (zBx k)).all zhas = true) {dC : Nat → ClassId} {dI : Nat → Nat → Nat} {cB cI cL : ClassId} {A : Nat → Prop} {s : State} {args : Array Value} (hts : ∀ w ∈ ztb, w.before args s = true) (zz : zk dC dI cB cI cL A s) :
    ∀ a ∈ zown own ic (zE k) (zIx k) (zBx k), a.before args s = true := by
  intro a ha
  have h := List.all_eq_true.mp hall a ha
  simp only [zhas, Bool.or_eq_true, Bool.and_eq_true, decide_eq_true_eq] at h
  rcases h with (⟨h1, h2⟩ | ⟨h1, h2⟩) | h1
  · exact hts a (List.mem_filter.mpr ⟨h2, h1⟩)
  · have hm : a ∈ zN := List.mem_filter.mpr ⟨h2, h1⟩
    exact va_Nw.use (zN_tab a hm) (zz.2.1 a hm)
  · exact zsp_ok zz.2.2.1 a h1
-- own row: 'throw new E("text")', what is left of the heap told exactly (the way to it follows the library's Stand.ctorThrowS, whose end speaks of the start's cells alone)
set_option maxHeartbeats 1000000 in
theorem zctor {p : Program} {l : Launch} {e : Env} {R : Room} {s : State} {m₀ : MethodId} {args : Array Value} {below : List Frame} {meth : Method} {c : Code} {W : State} {locs : List Loc} {cells slots : Nat}
    (X : Stand p l e R s m₀ args below meth c W locs cells slots) (hexec : p.tables.exec = Jvm.exec) (htr : e.platform.stackTraces = false) {own cls : String} {ix : Nat} {bx : ByteArray} {ic : Nat}
    (hown : s.vm.findClass own = some m₀.cls) (hcls : Bundle.fit cls = true) (hdec : zCdec ix bx)
    (h : ∀ a ∈ zown own ic cls ix bx, a.before args s = true)
    (hlocs : ∀ x ∈ locs, ∀ cell, s.heap[x.base]? = some cell → cell.vm.isStatics = false)
    {a : Addr} {cX : ClassId} {kX : Class} (hfoundX : s.vm.findClass cls = some cX) (hkX : s.vm.classes[cX]? = some kX) (hcell : W.heap[a]? = some (freshCell cX kX)) (hnew : s.heap.size ≤ a)
    {msg : Value} (hmsg : msg.isRef = true)
    {g : JFrame} (hg : g.method = m₀) (hsize : g.locals.size = c.maxLocals) (hlocked : g.locked = none) (hentered : g.entered = []) {rest : List Value} (hstack : g.stack = msg :: .ref a :: .ref a :: rest)
    (hd6 : decode c.code g.pc = .ok (.invokespecial ic, 3)) (hd9 : decode c.code (g.pc + 3) = .ok (.athrow, 1)) (hout : ∀ x ∈ c.exceptionTable.toList, covers x (g.pc + 3) = false)
    (hRframes : 5 < R.frames) (hRlocals : 2 * g.monitorRoom + ((Value.ref a :: rest).map fun v => v.category).sum + 81 ≤ R.locals) (hlocks : meth.locks = false) :
    ∃ U : State, Steps p.tables e below (W.setTop g) U ∧ U.status = .running ∧ Ended U below (.threw a) ∧ s.WarmedH U.vm ∧ s.sameButNew ({ U with vm := s.vm } : State) locs cells slots ∧
      (∃ ce, U.heap[a]? = some ce ∧ ce.vm = .none ∧ ce.cls = cX) ∧ U.heap.size = W.heap.size ∧ ∀ q : Nat, q ≠ a → U.heap[q]? = W.heap[q]? := by
  have howns : e.platform.frameOwnsMonitors = true := by rw [X.admits.platform]
  have hfin : e.platform.finalization = false := by rw [X.admits.platform]
  have hpl : e.platform.magicAccessors = ({} : Platform).magicAccessors := by rw [X.admits.platform]
  have a' : ∀ x, x ∈ zown own ic cls ix bx → x.holds args s none s [] = true := fun x hx => h x hx
  obtain ⟨T, Z0, L, -, Y⟩ := ThrowableC.of_atoms (args := args) howns hfin hpl (fun x hx => h x (by simp [zown, hx]))
  obtain ⟨Z, M, LZ, LM, hnZ⟩ := Init0T.ofS_atoms (args := args) hpl L Y (fun x hx => h x (by simp [zown, hx]))
  obtain ⟨P2, Ps, hlen, L2, hL, hP2m, hlink2, hlink⟩ := Bundle.chainS (args := args) hpl hnZ ["java/lang/Exception"] "java/lang/RuntimeException" (by decide +kernel) (by decide +kernel) (fun x hx => h x (by simp [zown, hx]))
  obtain ⟨P1, L1, hP1m, hP1s⟩ := PassC.ofS_atoms (args := args) (pl := e.platform) hpl (X := cls) (Y := "java/lang/RuntimeException") (index := ix) (bytes := bx) (Bundle.fit_spec hcls).1 (by decide) hdec.1 hdec.2.1 hdec.2.2.1 hdec.2.2.2 (fun x hx => h x (by simp [zown, hx]))
  have hlink1 : P1.sup = P2.m := Option.some.inj (hP1s.symm.trans hP2m)
  have hfound : s.vm.findClass cls = some P1.m.cls := findClass_of_methodNamed hP1m
  cases Option.some.inj (hfoundX.symm.trans hfound)
  obtain ⟨c1, kX', hc1, hk, hord, -, -, hn6⟩ := Cond.instantiable_spec (a' (.instantiable cls 6) (by simp [zown]))
  cases Option.some.inj (hc1.symm.trans hfound)
  cases Option.some.inj (hkX.symm.trans hk)
  have hsel0 : selectMethod e.platform s.vm P1.m.cls T.fill0 = .method T.fill0 := by
    obtain ⟨c2, r2, m2, q1, q2, q3, q4, -⟩ := Cond.selects_spec (a' (.selects cls Bundle.tFill0 Bundle.tFill0) (by simp [zown]))
    cases Option.some.inj (q1.symm.trans hfound)
    cases Option.some.inj (q2.symm.trans (State.methodFound?_of_named Y.fill0 (by decide)))
    cases Option.some.inj (q3.symm.trans Y.fill0)
    rw [Launch.admits_selectMethod X.admits]; exact q4
  have hselF : selectMethod e.platform s.vm P1.m.cls T.fill = .method T.fill := by
    obtain ⟨c2, r2, m2, q1, q2, q3, q4, -⟩ := Cond.selects_spec (a' (.selects cls Bundle.tFill Bundle.tFill) (by simp [zown]))
    cases Option.some.inj (q1.symm.trans hfound)
    cases Option.some.inj (q2.symm.trans (State.methodFound?_of_named Y.fill (by decide)))
    cases Option.some.inj (q3.symm.trans Y.fill)
    rw [Launch.admits_selectMethod X.admits]; exact q4
  obtain ⟨cellS0, hcS0, hiss⟩ := Y.statics
  obtain ⟨u0, hu0⟩ := Cond.staticRefV Y.unassigned L.unassignedStatic L.statics hcS0 hiss (a' (.isRef (.static Bundle.tN "UNASSIGNED_STACK" Bundle.steD)) (by simp [zown]))
  obtain ⟨sen, hsen⟩ := Cond.staticRefV Y.sentinel L.sentinelStatic L.statics hcS0 hiss (a' (.isRef (.static Bundle.tN "SUPPRESSED_SENTINEL" Bundle.listD)) (by simp [zown]))
  obtain ⟨ci198, i198, fB, hk198, hg198, ha198, hsB, -, hnB, htB, hffB⟩ := Cond.ownField (t := .object "java/lang/Object") Y.found L.cls (by decide +kernel) (a' (.fieldLink Bundle.tN 198 Bundle.tN "backtrace" "Ljava/lang/Object;") (by simp [zown])) (a' (.lays Bundle.tN Bundle.tN "backtrace" "Ljava/lang/Object;") (by simp [zown])) e.platform hpl
  obtain ⟨cellS, hcS', heS, -, hkeep⟩ := X.same.2.2.2.2.2 T.aS cellS0 hcS0
  have hcellS : W.heap[T.aS]? = some cellS := hcS'
  have hout' : ∀ i, (⟨T.aS, i⟩ : Loc) ∉ locs := fun i hmem => by
    have := hlocs _ hmem cellS0 hcS0
    rw [hiss] at this; cases this
  have hknownS : cellS.vm ≠ .unknown := by
    rw [heS]; intro hu
    rw [show cellS0.vm = .unknown from hu] at hiss
    cases hiss
  have hneS : T.aS ≠ a := Nat.ne_of_lt (Nat.lt_of_lt_of_le (Array.getElem?_eq_some_iff.mp hcS0).1 hnew)
  obtain ⟨iM, hffM⟩ := Y.msg
  obtain ⟨tyC, dC, hdC, hdnC⟩ := Cond.laysAt hfound hk Y.cause (a' (.lays cls Bundle.tN "cause" "Ljava/lang/Throwable;") (by simp [zown]))
  obtain ⟨tyS, dS, hdS, hdnS⟩ := Cond.laysAt hfound hk Y.stack (a' (.lays cls Bundle.tN "stackTrace" Bundle.steD) (by simp [zown]))
  obtain ⟨tyP, dP, hdP, hdnP⟩ := Cond.laysAt hfound hk Y.supp (a' (.lays cls Bundle.tN "suppressedExceptions" Bundle.listD) (by simp [zown]))
  obtain ⟨tyM, dM, hdM, hdnM⟩ := Cond.laysAt hfound hk hffM (a' (.lays cls Bundle.tN "detailMessage" "Ljava/lang/String;") (by simp [zown]))
  obtain ⟨tyB, dB, hdB, hdnB⟩ := Cond.laysAt hfound hk hffB (a' (.lays cls Bundle.tN "backtrace" "Ljava/lang/Object;") (by simp [zown]))
  have bC := Cond.laysApart hdB hdC hdnB hdnC (by rw [hnB, Y.causeName]; decide)
  have bS := Cond.laysApart hdB hdS hdnB hdnS (by rw [hnB, Y.stackName]; decide)
  have bP := Cond.laysApart hdB hdP hdnB hdnP (by rw [hnB, Y.suppName]; decide)
  have hskip : SkipFacts T e.platform s (fun u => u) u0 ((preparedCellV T.toThrowableT (freshCell P1.m.cls kX) a u0 sen).withEntry W.cur) :=
    ⟨{ ci198 := ci198, i198 := i198, fBack := fB }, ⟨hk198, hg198, ha198, hsB⟩, by
      have := fresh_default (c := P1.m.cls) tyB
      rw [htB] at this
      simpa [preparedCellV, Cell.setSlot, Cell.withEntry, Array.getElem?_setIfInBounds, bC, bS, bP, bC.symm, bS.symm, bP.symm, defaultValue] using this, fun _ _ => rfl⟩
  obtain ⟨tm, methC, cdC, kC, vm₁, hnC, -, -, -, -, -, -, -, hW₁, st1⟩ := Steps.initColdS (tb := p.tables) (e := e) (below := below) (s := s) (U := W) X.here hexec X.warmed hpl hown (t := Bundle.initS cls) rfl rfl (Bundle.fit_spec hcls).2
    (a' (.methodLink own ic (Bundle.initS cls)) (by simp [zown])) (h (.instanceMethod (Bundle.initS cls)) (by simp [zown, Bundle.passSAtoms])) (bytes := bx) (maxL := 2) (h (.code (Bundle.initS cls) bx 2 none) (by simp [zown, Bundle.passSAtoms]))
    (f := g) hg (a := a) (msg := msg) (rest := .ref a :: rest) hstack hd6
  cases Option.some.inj (hnC.symm.trans hP1m)
  have X₁ := X.noted hW₁
  obtain ⟨vm₂, X₂, st2⟩ := X₁.ctorMessageOffV hexec (g := { g with stack := .ref a :: rest }) hg hsize T L Z LZ M LM (P1 :: P2 :: Ps)
    (fun P hP => by rcases List.mem_cons.mp hP with rfl | hP; exact L1; rcases List.mem_cons.mp hP with rfl | hP; exact L2; exact hL P hP) ⟨hlink1, hlink2, hlink⟩ (u0 := u0) (sen := sen) (self := a) hmsg (cell := freshCell P1.m.cls kX) (cellS := cellS)
    hcell (fun _ => by simp) (by simp) rfl rfl hsel0 hselF hcellS hneS hknownS (by rw [hkeep _ (hout' _)]; exact hu0) (by rw [hkeep _ (hout' _)]; exact hsen)
    (Takes.of_laid hk hord tyC (by rw [Y.causeType]; rfl)) (Takes.of_laid hk hord tyS (by rw [Y.stackType]; exact fits_refV_array _ u0)) (Takes.of_laid hk hord tyP (by rw [Y.suppType]; exact fits_refV_object _ sen))
    (Takes.of_laid hk hord tyM (by rw [Y.msgType]; exact fits_refV_object _ ⟨msg, hmsg⟩)) Y.objLocals hskip htr [] hd6
    (by simp only [List.length_cons, hlen, List.length_nil]; omega) (by simp only [List.length_cons, hlen, List.length_nil]; exact hRlocals)
  obtain ⟨hwalk, hrun, hended, hWU, hsame⟩ := X₂.athrowLeaves hexec (g := { g with stack := .ref a :: rest, pc := g.pc + 3 }) hg hlocked hentered hout (a := a) (rest := rest) rfl hd9
  have hlt : a < ((W.setVm vm₁).setVm vm₂).heap.size := (Array.getElem?_eq_some_iff.mp hcell).1
  have hU := heapAt_setCell_self (s := (W.setVm vm₁).setVm vm₂) (plainBareV T.toThrowableT (freshCell P1.m.cls kX) a u0 sen msg) hlt
  refine ⟨_, st1 _ (fun acts => ?_), hrun, hended, hWU, hsame.weaken (fun y hy hlt' => ?_) (Nat.le_refl _) (Nat.le_refl _), ⟨_, hU, rfl, rfl⟩, ?_, ?_⟩
  · rw [doInvoke_state]
    exact st2 _ hwalk
  · rcases List.mem_append.mp hy with h1 | h1
    · exact h1
    · exfalso
      have hb : y.base = a := by
        simp only [List.mem_cons, List.not_mem_nil, or_false] at h1
        rcases h1 with rfl | rfl | rfl | rfl | rfl <;> rfl
      rw [hb] at hlt'
      exact Nat.not_lt.mpr hnew hlt'
  · simp [State.setFrames, State.setCell, State.setVm]
  · intro q hq
    simp [State.setFrames, State.setCell, State.setVm, Array.getElem?_setIfInBounds, Ne.symm hq]
theorem zoff {l : Launch} {e : Env} (h : l.admits e) (hl : l.stackTraces = false) : e.platform.stackTraces = false := by
  rw [h.platform]; exact hl
theorem zold {D : va_G} {cl : List vw_C} {ws : va_W} {H H1 : Heap} (h : va_P D cl ws H) (ho : ∀ q' : Nat, q' < H.size → H1[q']? = H[q']?) : ∀ (k : Nat) (q : Nat × va_E), ws[k]? = some q → H1[q.1]? = H[q.1]? := fun k q hk => ho _ (h k q hk).lt
theorem zFr {A : Nat → Prop} {s t : State} {H : Heap} {locs : List Loc} (hS : va_S A s.heap H locs) (hz : H.size ≤ t.heap.size) (ho : ∀ q' : Nat, q' < H.size → t.heap[q']? = H[q']?) : va_F A s t :=
  ⟨Nat.le_trans hS.1 hz, fun q hq hn => (ho q (Nat.lt_of_lt_of_le hq hS.1)).trans (hS.2.1 q hq hn)⟩
def zmx {α β : Type} (x : α ⊕ Nat) (f : α → Option β) (k : Nat → Option β) : Option β := match x with
  | .inl r => f r
  | .inr n => k n
theorem zat_plain {D : va_G} {cl : List vw_C} {q : Nat × va_E} {H : Heap} (h : va_at D cl q H) {cell : Cell} (hc : H[q.1]? = some cell) : cell.vm.isStatics = false := by
  obtain ⟨a, e⟩ := q
  cases e with
  | inl x =>
    have h1 : H[a]? = some (vp_cell x.1 x.2) := h
    cases Option.some.inj (hc.symm.trans h1)
    obtain ⟨cA, n, f⟩ := x
    rcases f with f | f | f | f | f <;> rfl
  | inr o =>
    obtain ⟨r, h1, cell2, h2, h3⟩ := h
    cases Option.some.inj (hc.symm.trans h2)
    first | rw [h3.2.1]; rfl | rw [h3.1]; rfl | simp [h3]
theorem zstatics {D : va_G} {cl : List vw_C} {w : va_W} {H : Heap} (h : va_P D cl w H) : ∀ q, va_A w H.size q → ∀ cell, H[q]? = some cell → cell.vm.isStatics = false := by
  intro q hq cell hcell
  rcases hq with ⟨k, e, hk⟩ | hq
  · exact zat_plain (h k (q, e) hk) hcell
  · exact absurd (Array.getElem?_eq_some_iff.mp hcell).1 (Nat.not_lt.mpr hq)
section ZRET
variable {p : Program} {l : Launch} {e : Env} {R : Room} {s : State} {m : MethodId} {args : Array Value} {below : List Frame} {meth : Method} {c : Code} {H : Heap} {locs : List Loc} {cells slots : Nat}
variable {D : va_G} {A : Nat → Prop} {own : String} {cc : ByteArray} {nL F L : Nat} {S : Type} {W1 : S → va_W} {pc : Nat} {ls : Array Slot}
theorem zxreti {post : Int32 ⊕ Nat → S → Prop} {u : S} {v : Int32} (X : zx p s m args meth c R own cc (some .int) nL F L) (hlocks : meth.locks = false) (hp : post (.inl v) u) (hP : va_P D zcl (W1 u) H) (hD : va_D A (W1 u)) (hS : va_S A s.heap H locs) (hdg : decode cc pc = .ok (.ireturn, 1)) :
    W p l e R s m args below meth c H locs cells slots (zMQ below (zQx (fun r => some (.int r)) post D W1 A) args s cells slots A) (F0 m pc ls [.int v]) :=
  zup (Qc := fun _ st o t => o = .returned (some (.int v)) ∧ va_P D zcl (W1 u) t.heap ∧ va_F A st t) (fun o t h => ⟨u, h.2.1, hD, h.2.2, Or.inl ⟨v, h.1, hp⟩⟩)
    (W.iret (v := v) X.1 X.2.1 X.2.2.1 (fun t9 ht9 hW9 => ⟨rfl, by rw [ht9]; exact hP, hS.F ht9⟩) hS.2.2 hdg)
theorem zxretl {post : Int64 ⊕ Nat → S → Prop} {u : S} {v : Int64} (X : zx p s m args meth c R own cc (some .long) nL F L) (hlocks : meth.locks = false) (hp : post (.inl v) u) (hP : va_P D zcl (W1 u) H) (hD : va_D A (W1 u)) (hS : va_S A s.heap H locs) (hdg : decode cc pc = .ok (.lreturn, 1)) :
    W p l e R s m args below meth c H locs cells slots (zMQ below (zQx (fun r => some (.long r)) post D W1 A) args s cells slots A) (F0 m pc ls [.long v]) :=
  zup (Qc := fun _ st o t => o = .returned (some (.long v)) ∧ va_P D zcl (W1 u) t.heap ∧ va_F A st t) (fun o t h => ⟨u, h.2.1, hD, h.2.2, Or.inl ⟨v, h.1, hp⟩⟩)
    (W.lret (v := v) X.1 X.2.1 X.2.2.1 (fun t9 ht9 hW9 => ⟨rfl, by rw [ht9]; exact hP, hS.F ht9⟩) hS.2.2 hdg)
theorem zxretv {post : Unit ⊕ Nat → S → Prop} {u : S} (X : zx p s m args meth c R own cc none nL F L) (hlocks : meth.locks = false) (hp : post (.inl ()) u) (hP : va_P D zcl (W1 u) H) (hD : va_D A (W1 u)) (hS : va_S A s.heap H locs) (hdg : decode cc pc = .ok (.return_, 1)) :
    W p l e R s m args below meth c H locs cells slots (zMQ below (zQx (fun _ => none) post D W1 A) args s cells slots A) (F0 m pc ls []) :=
  zup (Qc := fun _ st o t => o = .returned none ∧ va_P D zcl (W1 u) t.heap ∧ va_F A st t) (fun o t h => ⟨u, h.2.1, hD, h.2.2, Or.inl ⟨(), h.1, hp⟩⟩)
    (W.vret X.1 X.2.1 X.2.2.1 (fun t9 ht9 hW9 => ⟨rfl, by rw [ht9]; exact hP, hS.F ht9⟩) hS.2.2 hdg)
end ZRET
section ZT
variable {p : Program} {l : Launch} {e : Env} {R : Room} {s : State} {m : MethodId} {args : Array Value} {below : List Frame} {meth : Method} {c : Code} {H : Heap} {locs : List Loc} {cells slots : Nat} {Q : State → Prop}
variable {dC : Nat → ClassId} {dI : Nat → Nat → Nat} {cB cI cL : ClassId} {A : Nat → Prop} {own : String} {cc : ByteArray} {ret0 : Option FieldType} {nL F L : Nat}
/-- 'throw new E("text")' in a method without handlers: the method ends, all that lay in the heap lies there still -/
theorem zthrow (htr : l.stackTraces = false) (X : zx p s m args meth c R own cc ret0 nL F L) (zz : zk dC dI cB cI cL A s) (hnh : c.exceptionTable.isEmpty = true) (hAs : ∀ q, A q → ∀ cell, s.heap[q]? = some cell → cell.vm.isStatics = false) (hA : ∀ q, s.heap.size ≤ q → A q)
    (hS : va_S A s.heap H locs) (k : Nat) {ik is ic : Nat} {text : String} (hk : Cond.classLink own ik (zE k) ∈ ztb) (hini : Cond.initialized (zE k) ∈ ztb) (hst : (own, is, text) ∈ zSt) (hat : (zown own ic (zE k) (zIx k) (zBx k)).all zhas = true)
    (hfit : Bundle.fit (zE k) = true ∧ zCdec (zIx k) (zBx k))
    {pc : Nat} {ls : Array Slot} {lv : List (Nat × Value)} (hls : lv_has ls nL lv) {rest : List Value} {Qc : Array Value → State → Outcome → State → Prop} {C Z : Nat}
    (d0 : decode cc pc = .ok (.new ik, 3)) (d3 : decode cc (pc + 3) = .ok (.dup, 1)) (d4 : decode cc (pc + 4) = .ok (.ldc is, 2)) (d6 : decode cc (pc + 6) = .ok (.invokespecial ic, 3)) (d9 : decode cc (pc + 9) = .ok (.athrow, 1))
    (hRf : 6 ≤ R.frames) (hRl : (rest.map fun v => v.category).sum + 90 ≤ R.locals) (hRc : C ≤ R.cells) (hRz : Z ≤ R.slots) (hC : cells + 1 ≤ C) (hZ : slots + 6 ≤ Z)
    (kk : ∀ (t : State) (q : Addr), H.size ≤ t.heap.size → (∀ q' : Nat, q' < H.size → t.heap[q']? = H[q']?) → zthr k q s t → Qc args s (.threw q) t) :
    W p l e R s m args below meth c H locs cells slots (zMQ below Qc args s C Z A) (F0 m pc ls rest) := by
  obtain ⟨hx, hb, hr, hml, hown, hts, hlocks, -, -⟩ := X
  intro T hT X0
  have hat' := zatoms hat hts zz
  have hins : (Cond.instantiable (zE k) 6).before args s = true := hat' _ (by simp [zown])
  obtain ⟨vm₁, cX, kX, hfX, hkX, -, -, X₁, st1⟩ := X0.newCold hx (own := own) (C := zE k) (index := ik) (n := 6) hown (hts _ hk) hins (hts _ hini) (g := F0 m pc ls rest) rfl (by rw [hb]; exact d0) (by omega) (by omega)
  generalize hT1 : (T.setVm vm₁).pushCell { cls := cX, slots := kX.instanceTypes.map defaultValue, vm := .none } = T1 at X₁ st1
  have hcellA : T1.heap[T.heap.size]? = some (freshCell cX kX) := by rw [← hT1]; exact State.heap_pushCell_size _ _
  have hsz1 : T1.heap.size = T.heap.size + 1 := by rw [← hT1]; simp [State.pushCell, State.setVm]
  have hold1 : ∀ q : Nat, q < T.heap.size → T1.heap[q]? = T.heap[q]? := by
    intro q hq
    rw [← hT1]
    simp [State.pushCell, State.setVm, Array.getElem?_push, Nat.ne_of_lt hq]
  obtain ⟨sa, hsr, hev⟩ := zz.2.2.2 _ hst
  have hHT : s.heap.size ≤ T.heap.size := by rw [hT]; exact hS.1
  have hlocs : ∀ x ∈ locs, ∀ cell, s.heap[x.base]? = some cell → cell.vm.isStatics = false := fun x hx' cell hcell => hAs _ (hS.2.2 x hx') cell hcell
  obtain ⟨U, hsteps, hrun, hend, hW, hsame, ⟨ce, hce, hcv, hcc⟩, hUs, hUo⟩ := zctor X₁ hx (zoff X0.admits htr) (own := own) (cls := zE k) (ix := zIx k) (bx := zBx k) (ic := ic) hown hfit.1 hfit.2 hat' hlocs hfX hkX hcellA hHT (msg := .ref sa) rfl
    (g := { method := m, pc := pc + 6, locals := ls, stack := .ref sa :: .ref T.heap.size :: .ref T.heap.size :: rest, locked := none }) rfl (by rw [hml]; exact hls.1) rfl rfl (rest := rest) rfl (by rw [hb]; exact d6) (by rw [hb]; exact d9)
    (fun x hx' => by
      have he : c.exceptionTable.toList = [] := by simpa using hnh
      rw [he] at hx'
      cases hx')
    (by omega) (by
      have h1 : (Value.ref T.heap.size).category = 1 := rfl
      show 2 * 0 + _ + _ ≤ _
      simp only [List.map_cons, List.sum_cons, h1]; omega) hlocks
  refine ⟨U, st1 _ ?_, .threw T.heap.size, hrun, hend, ?_, locs, ⟨hW, hsame.mono (by omega) (by omega)⟩, fun q hq => hS.2.2 q hq⟩
  · show Steps p.tables e below (T1.setTop { method := m, pc := pc + 3, locals := ls, stack := .ref T.heap.size :: rest, locked := none }) _
    have d3' : decode c.code (pc + 3) = .ok (.dup, 1) := by rw [hb]; exact d3
    jvm_step X₁.here [X₁.here.top, hx, d3', Value.category]
    exact X₁.ldcString hx (own := own) (text := text) (index := is) (a := sa) hown hsr hev
      (g := { method := m, pc := pc + 4, locals := ls, stack := .ref T.heap.size :: .ref T.heap.size :: rest, locked := none }) rfl (by rw [hb]; exact d4) _ hsteps
  · refine kk U _ ?_ ?_ ⟨hHT, ce, hce, hcv, by rw [hcc]; exact hfX⟩
    · rw [← hT, hUs, hsz1]; omega
    · intro q' hq'
      rw [← hT] at hq' ⊢
      rw [hUo q' (Nat.ne_of_lt hq'), hold1 q' hq']
/-- the same, the text by a wide index, in a method without handlers: the method ends, all that lay in the heap lies there still -/
theorem zthrowW (htr : l.stackTraces = false) (X : zx p s m args meth c R own cc ret0 nL F L) (zz : zk dC dI cB cI cL A s) (hnh : c.exceptionTable.isEmpty = true) (hAs : ∀ q, A q → ∀ cell, s.heap[q]? = some cell → cell.vm.isStatics = false) (hA : ∀ q, s.heap.size ≤ q → A q)
    (hS : va_S A s.heap H locs) (k : Nat) {ik is ic : Nat} {text : String} (hk : Cond.classLink own ik (zE k) ∈ ztb) (hini : Cond.initialized (zE k) ∈ ztb) (hst : (own, is, text) ∈ zSt) (hat : (zown own ic (zE k) (zIx k) (zBx k)).all zhas = true)
    (hfit : Bundle.fit (zE k) = true ∧ zCdec (zIx k) (zBx k))
    {pc : Nat} {ls : Array Slot} {lv : List (Nat × Value)} (hls : lv_has ls nL lv) {rest : List Value} {Qc : Array Value → State → Outcome → State → Prop} {C Z : Nat}
    (d0 : decode cc pc = .ok (.new ik, 3)) (d3 : decode cc (pc + 3) = .ok (.dup, 1)) (d4 : decode cc (pc + 4) = .ok (.ldc_w is, 3)) (d6 : decode cc (pc + 7) = .ok (.invokespecial ic, 3)) (d9 : decode cc (pc + 10) = .ok (.athrow, 1))
    (hRf : 6 ≤ R.frames) (hRl : (rest.map fun v => v.category).sum + 90 ≤ R.locals) (hRc : C ≤ R.cells) (hRz : Z ≤ R.slots) (hC : cells + 1 ≤ C) (hZ : slots + 6 ≤ Z)
    (kk : ∀ (t : State) (q : Addr), H.size ≤ t.heap.size → (∀ q' : Nat, q' < H.size → t.heap[q']? = H[q']?) → zthr k q s t → Qc args s (.threw q) t) :
    W p l e R s m args below meth c H locs cells slots (zMQ below Qc args s C Z A) (F0 m pc ls rest) := by
  obtain ⟨hx, hb, hr, hml, hown, hts, hlocks, -, -⟩ := X
  intro T hT X0
  have hat' := zatoms hat hts zz
  have hins : (Cond.instantiable (zE k) 6).before args s = true := hat' _ (by simp [zown])
  obtain ⟨vm₁, cX, kX, hfX, hkX, -, -, X₁, st1⟩ := X0.newCold hx (own := own) (C := zE k) (index := ik) (n := 6) hown (hts _ hk) hins (hts _ hini) (g := F0 m pc ls rest) rfl (by rw [hb]; exact d0) (by omega) (by omega)
  generalize hT1 : (T.setVm vm₁).pushCell { cls := cX, slots := kX.instanceTypes.map defaultValue, vm := .none } = T1 at X₁ st1
  have hcellA : T1.heap[T.heap.size]? = some (freshCell cX kX) := by rw [← hT1]; exact State.heap_pushCell_size _ _
  have hsz1 : T1.heap.size = T.heap.size + 1 := by rw [← hT1]; simp [State.pushCell, State.setVm]
  have hold1 : ∀ q : Nat, q < T.heap.size → T1.heap[q]? = T.heap[q]? := by
    intro q hq
    rw [← hT1]
    simp [State.pushCell, State.setVm, Array.getElem?_push, Nat.ne_of_lt hq]
  obtain ⟨sa, hsr, hev⟩ := zz.2.2.2 _ hst
  have hHT : s.heap.size ≤ T.heap.size := by rw [hT]; exact hS.1
  have hlocs : ∀ x ∈ locs, ∀ cell, s.heap[x.base]? = some cell → cell.vm.isStatics = false := fun x hx' cell hcell => hAs _ (hS.2.2 x hx') cell hcell
  obtain ⟨U, hsteps, hrun, hend, hW, hsame, ⟨ce, hce, hcv, hcc⟩, hUs, hUo⟩ := zctor X₁ hx (zoff X0.admits htr) (own := own) (cls := zE k) (ix := zIx k) (bx := zBx k) (ic := ic) hown hfit.1 hfit.2 hat' hlocs hfX hkX hcellA hHT (msg := .ref sa) rfl
    (g := { method := m, pc := pc + 7, locals := ls, stack := .ref sa :: .ref T.heap.size :: .ref T.heap.size :: rest, locked := none }) rfl (by rw [hml]; exact hls.1) rfl rfl (rest := rest) rfl (by rw [hb]; exact d6) (by rw [hb]; exact d9)
    (fun x hx' => by
      have he : c.exceptionTable.toList = [] := by simpa using hnh
      rw [he] at hx'
      cases hx')
    (by omega) (by
      have h1 : (Value.ref T.heap.size).category = 1 := rfl
      show 2 * 0 + _ + _ ≤ _
      simp only [List.map_cons, List.sum_cons, h1]; omega) hlocks
  refine ⟨U, st1 _ ?_, .threw T.heap.size, hrun, hend, ?_, locs, ⟨hW, hsame.mono (by omega) (by omega)⟩, fun q hq => hS.2.2 q hq⟩
  · show Steps p.tables e below (T1.setTop { method := m, pc := pc + 3, locals := ls, stack := .ref T.heap.size :: rest, locked := none }) _
    have d3' : decode c.code (pc + 3) = .ok (.dup, 1) := by rw [hb]; exact d3
    jvm_step X₁.here [X₁.here.top, hx, d3', Value.category]
    exact X₁.ldcStringW hx (own := own) (text := text) (index := is) (a := sa) hown hsr hev
      (g := { method := m, pc := pc + 4, locals := ls, stack := .ref T.heap.size :: .ref T.heap.size :: rest, locked := none }) rfl (by rw [hb]; exact d4) _ hsteps
  · refine kk U _ ?_ ?_ ⟨hHT, ce, hce, hcv, by rw [hcc]; exact hfX⟩
    · rw [← hT, hUs, hsz1]; omega
    · intro q' hq'
      rw [← hT] at hq' ⊢
      rw [hUo q' (Nat.ne_of_lt hq'), hold1 q' hq']
end ZT
section ZC
variable {p : Program} {l : Launch} {e : Env} {R : Room} {s : State} {m : MethodId} {args : Array Value} {below : List Frame} {meth : Method} {c : Code} {H : Heap} {locs : List Loc} {cells slots : Nat} {Q : State → Prop}
variable {dC : Nat → ClassId} {dI : Nat → Nat → Nat} {cB cI cL : ClassId} {A : Nat → Prop} {own : String} {cc : ByteArray} {ret0 : Option FieldType} {nL F L : Nat} {y : MethodName} {bytes : ByteArray} {maxL : Nat} {ret : Option FieldType} {rm : Room} {Pc : Array Value → State → Prop} {Qc : Array Value → State → Outcome → State → Prop} {mc ms n idx : Nat} {b : Addr} {As rest : List Value} {wc wr ws : va_W} {pc : Nat} {ls : Array Slot} {lv : List (Nat × Value)} {st0 : List Value} {free : Addr → Prop}
theorem zenter {wds : List Cond} {len : Nat} {U : State} (X : Stand p l e R s m args below meth c U locs cells slots) {g : JFrame} {ig : Instr} (hg : g.method = m) (hsize : g.locals.size = c.maxLocals) (hdg : decode c.code g.pc = .ok (ig, len))
    (hM : zMet l y wds rm Pc Qc mc ms free) (hbl : FrameBlind Pc) {mk : MethodId} (hn : U.methodNamed? y = some mk) {a : Array Value} (hPc : Pc a U) (hws : ∀ w ∈ wds, w.before a U = true) (hcode : (Cond.code y bytes maxL ret).before a U = true) (hini : (Cond.initialized y.cls).before a U = true)
    (hrc : rm.cells = mc) (hrs : rm.slots = ms) (hframes : rm.frames + 1 ≤ R.frames) (hW : 2 * g.monitorRoom + (g.stack.map fun v => v.category).sum ≤ 8) (hlocals : 8 + (maxL + 11) + rm.locals ≤ R.locals) (hcells : cells + mc ≤ R.cells) (hslots : slots + ms ≤ R.slots) :
    ∃ (o : Outcome) (t T' : State) (L : List Loc), Qc a (U.calling g mk a) o t ∧ (∀ q ∈ L, free q.base) ∧ Stand p l e R s m args below meth c T' (locs ++ L) (cells + mc) (slots + ms) ∧ T'.heap = t.heap ∧
      (∀ v, o = .returned v → Steps p.tables e below (doInvoke e (U.setTop g) [] mk a).1 (T'.setTop { g with pc := g.pc + len, stack := v.toList ++ g.stack })) ∧
      (∀ q, o = .threw q → Steps p.tables e below (doInvoke e (U.setTop g) [] mk a).1 ((T'.setTop g).pushFrame (.throwing q))) := by
  obtain ⟨methY, cY, hmY, hcY, -, hlY, -, -, -, -⟩ := Cond.code_spec hn hcode
  obtain ⟨kY, hkY, -⟩ := className_of_methodNamed hn
  have hinitY : kY.init = .initialized := Cond.initialized_spec (findClass_of_methodNamed hn) hkY hini
  have h : At U g.method c below := by rw [hg]; exact X.here
  have h9 : (headSpec wds rm).room = rm := rfl
  have happ : (headSpec wds rm).appliesLoose y e.platform (U.calling g mk a) = true :=
    Spec.appliesLoose_calling (g := g) h hdg hn hkY hinitY (X.room_calling (g := g) (R' := (headSpec wds rm).room) hsize hmY hcY hframes (by rw [hlY, h9]; omega) (by rw [h9, hrc]; exact hcells) (by rw [h9, hrs]; exact hslots)) (atoms_intro hws)
  have hfr : (U.setTop g).frames = [Frame.java g] ++ below := by rw [State.frames_setTop' g h.top, X.tail]; rfl
  obtain ⟨o, t, hsteps, -, hend, hq⟩ := Steps.callFree hM p X.admits X.cas X.clock (acts := []) hfr happ (hbl _ _ _ _ hPc) trivial
  obtain ⟨hq, L, ⟨hW2, hsame⟩, hL⟩ := hq
  rw [hfr] at hend
  cases o with
  | returned v =>
    obtain ⟨T', X', -, -, ht⟩ := X.outOf hg hdg hend hW2 hsame
    refine ⟨_, t, T', L, hq, hL, X', by rw [ht]; rfl, ?_, fun q h => (by cases h)⟩
    intro v' hv
    cases hv
    rw [← ht]
    exact hsteps
  | threw q =>
    obtain ⟨T', X', -, -, ht⟩ := X.outOfThrown hg hend hW2 hsame
    refine ⟨_, t, T', L, hq, hL, X', by rw [ht]; rfl, fun v h => (by cases h), ?_⟩
    intro q' hv
    cases hv
    rw [← ht]
    exact hsteps
def zRunX (p : Program) (l : Launch) (e : Env) (R : Room) (s : State) (m : MethodId) (args : Array Value) (below : List Frame) (meth : Method) (c : Code) (H : Heap) (locs : List Loc) (cells slots mc ms : Nat) (g : JFrame) (rest : List Value) (Qa : State → Outcome → State → Prop) (free : Addr → Prop) : Prop :=
  ∀ T : State, T.heap = H → Stand p l e R s m args below meth c T locs cells slots → ∃ (o : Outcome) (st₀ t T' : State) (L : List Loc), st₀.heap = H ∧ s.WarmedH st₀.vm ∧ Stand p l e R s m args below meth c T' (locs ++ L) (cells + mc) (slots + ms) ∧ (∀ q ∈ L, free q.base) ∧ T'.heap = t.heap ∧ Qa st₀ o t ∧
    (∀ v, o = .returned v → ∀ target, Steps p.tables e below (T'.setTop { g with pc := g.pc + 3, stack := v.toList ++ rest }) target → Steps p.tables e below (T.setTop g) target) ∧
    (∀ q, o = .threw q → Steps p.tables e below (T.setTop g) ((T'.setTop { g with stack := rest }).pushFrame (.throwing q)))
theorem zrunXV (X : zx p s m args meth c R own cc ret0 nL F L) (zz : zk dC dI cB cI cL A s) (hP : va_P (dC, dI) zcl ws H) (hD : va_D A ws) (hS : va_S A s.heap H locs) (hA : ∀ q, s.heap.size ≤ q → A q) (isC : List Nat) (hnd : va_nd isC = true) (hC : isC.map (fun i => ws[i]?) = wc.map some)
    (hM : zMet l y (zw y bytes maxL ret) rm (va_Pc (.ref b :: As) (zpre dC dI cB cI cL H.size wc)) Qc mc ms (va_A wc H.size)) (hy : zy y bytes maxL ret n) (hv : Cond.instanceMethod y ∈ ztb ∧ Cond.selects y.cls y y ∈ ztb) (hl : (Cond.methodLink own idx y).before args s = true) (hls : lv_has ls nL lv)
    (hst : st0 = As.reverse ++ .ref b :: rest) (hn : As.length = n) (hdg : decode cc pc = .ok (.invokevirtual idx, 3)) (hW : 2 * (F0 m pc ls st0).monitorRoom + (rest.map fun v => v.category).sum ≤ 8) (hrc : rm.cells = mc) (hrs : rm.slots = ms) (hR : rm.frames + 1 ≤ R.frames ∧ 8 + (maxL + 11) + rm.locals ≤ R.locals) (hf : cells + mc ≤ R.cells ∧ slots + ms ≤ R.slots)
    (q0 ci : Nat) {fs : List Value} {T : u_T} {k : Nat} (he : wc[q0]? = some (b, .inr (ci, fs))) (hc : zcl[ci]? = some (y.cls, T, k)) :
    zRunX p l e R s m args below meth c H locs cells slots mc ms (F0 m pc ls st0) rest (Qc (Value.ref b :: As).toArray) (va_A wc H.size) := by
  have hp := zpreS (av := .ref b :: As) zz hP hD hS hA isC hnd hC
  have hPc : va_P (dC, dI) zcl wc H := hP.sub isC (by
    have h1 : isC.filterMap (fun i => ws[i]?) = (isC.map (fun i => ws[i]?)).filterMap id := by simp
    rw [h1, hC]; simp)
  obtain ⟨cellB, hcB, hoB, hclB⟩ := va_recv zz.1 hPc (ci := ci) (q0 := q0) hc he
  obtain ⟨hx, hb, hr, hml, hown, hts, hlocks, -, -⟩ := id X
  have hcb := zcb X hy hl hrc hrs hR
  obtain ⟨-, -, -, -, hws, -, hcode, hini, hyn, hlen, hl⟩ := hcb
  intro T hT X0
  obtain ⟨mk, methM, hnamed, hmethM, hstM, habM⟩ := Cond.instanceMethod_spec (hts _ hv.1)
  obtain ⟨methM', cM, hmethM', -, -, -, -, -, -, hsigM⟩ := Cond.code_spec hnamed hcode
  cases hmethM.symm.trans hmethM'
  obtain ⟨c2, r2, m2, q1, q2, q3, q4, kP, hkP, hkPi⟩ := Cond.selects_spec (hts _ hv.2)
  cases hclB.symm.trans q1
  cases (State.methodFound?_of_named hnamed hyn).symm.trans q2
  cases hnamed.symm.trans q3
  have hselP : selectMethod e.platform s.vm cellB.cls mk = .method mk := by rw [Launch.admits_selectMethod X0.admits]; exact q4
  obtain ⟨vm₁, X₁, hstep₁⟩ := X0.invokevirtual hx hown hl hnamed hmethM hstM hkP hkPi hyn (a := b) (cell := cellB) (by rw [hT]; exact hcB)
    (fun z h => by rw [h] at hoB; cases hoB) hselP hmethM habM hkP hkPi (g := F0 m pc ls st0) rfl (argsL := As) (rest := rest) (hn.trans (hlen _ hsigM)) hst (by rw [hb]; exact hdg)
  have hd1 : decode c.code pc = .ok (.invokevirtual idx, 3) := by rw [hb]; exact hdg
  obtain ⟨o, t, T', L, hq, hL, X', hh, hret, hthr⟩ := zenter X₁ (g := { F0 m pc ls st0 with stack := rest }) (ig := .invokevirtual idx) rfl (by rw [hml]; exact hls.1) hd1 hM hp.1 (X₁.named hnamed) (hp.2 (T.setVm vm₁) hT X₁.warmed) (fun w hw => hws w hw _ _ X₁.warmed) (bytes := bytes) (maxL := maxL) (ret := ret)
    (word_at X₁.warmed (Or.inl rfl) hcode) (word_at X₁.warmed (Or.inl (by first | rfl | simp [Cond.onTables, Cond.keeps, Cond.steady])) hini) hrc hrs hR.1 hW hR.2 hf.1 hf.2
  refine ⟨o, _, t, T', L, ?_, ?_, X', hL, hh, hq, ?_, ?_⟩
  · exact hT
  · exact X₁.warmed
  · intro v hv target htg
    exact hstep₁ _ fun acts => by rw [doInvoke_state]; exact (hret v hv).trans htg
  · intro q hv
    exact hstep₁ _ fun acts => by rw [doInvoke_state]; exact hthr q hv
theorem zrunXS (X : zx p s m args meth c R own cc ret0 nL F L) (zz : zk dC dI cB cI cL A s) (hP : va_P (dC, dI) zcl ws H) (hD : va_D A ws) (hS : va_S A s.heap H locs) (hA : ∀ q, s.heap.size ≤ q → A q) (isC : List Nat) (hnd : va_nd isC = true) (hC : isC.map (fun i => ws[i]?) = wc.map some)
    (hM : zMet l y (zw y bytes maxL ret) rm (va_Pc As (zpre dC dI cB cI cL H.size wc)) Qc mc ms (va_A wc H.size)) (hy : zy y bytes maxL ret n) (hv : Cond.static y ∈ ztb) (hl : (Cond.methodLink own idx y).before args s = true) (hls : lv_has ls nL lv)
    (hst : st0 = As.reverse ++ rest) (hn : As.length = n) (hdg : decode cc pc = .ok (.invokestatic idx, 3)) (hW : 2 * (F0 m pc ls st0).monitorRoom + (rest.map fun v => v.category).sum ≤ 8) (hrc : rm.cells = mc) (hrs : rm.slots = ms) (hR : rm.frames + 1 ≤ R.frames ∧ 8 + (maxL + 11) + rm.locals ≤ R.locals) (hf : cells + mc ≤ R.cells ∧ slots + ms ≤ R.slots) :
    zRunX p l e R s m args below meth c H locs cells slots mc ms (F0 m pc ls st0) rest (Qc As.toArray) (va_A wc H.size) := by
  have hp := zpreS (av := As) zz hP hD hS hA isC hnd hC
  obtain ⟨hx, hb, hr, hml, hown, hts, hlocks, -, -⟩ := id X
  have hcb := zcb X hy hl hrc hrs hR
  obtain ⟨-, -, -, -, hws, -, hcode, hini, hyn, hlen, hl⟩ := hcb
  intro T hT X0
  obtain ⟨mk, hnamed⟩ := Cond.code_named hcode
  obtain ⟨methM, cM, hmethM, -, -, -, -, -, -, hsigM⟩ := Cond.code_spec hnamed hcode
  have hstatic : methM.isStatic = true := Cond.static_spec hnamed hmethM (hts _ hv)
  obtain ⟨kP, hkP, -⟩ := className_of_methodNamed hnamed
  have hinitP : kP.init = .initialized := Cond.initialized_spec (findClass_of_methodNamed hnamed) hkP hini
  obtain ⟨vm₁, X₁, hstep₁⟩ := X0.invokestatic hx hown hl hnamed hmethM hstatic hkP hinitP hyn (g := F0 m pc ls st0) rfl (argsL := As) (rest := rest) (hn.trans (hlen _ hsigM)) hst (by rw [hb]; exact hdg)
  have hd1 : decode c.code pc = .ok (.invokestatic idx, 3) := by rw [hb]; exact hdg
  obtain ⟨o, t, T', L, hq, hL, X', hh, hret, hthr⟩ := zenter X₁ (g := { F0 m pc ls st0 with stack := rest }) (ig := .invokestatic idx) rfl (by rw [hml]; exact hls.1) hd1 hM hp.1 (X₁.named hnamed) (hp.2 (T.setVm vm₁) hT X₁.warmed) (fun w hw => hws w hw _ _ X₁.warmed) (bytes := bytes) (maxL := maxL) (ret := ret)
    (word_at X₁.warmed (Or.inl rfl) hcode) (word_at X₁.warmed (Or.inl (by first | rfl | simp [Cond.onTables, Cond.keeps, Cond.steady])) hini) hrc hrs hR.1 hW hR.2 hf.1 hf.2
  refine ⟨o, _, t, T', L, ?_, ?_, X', hL, hh, hq, ?_, ?_⟩
  · exact hT
  · exact X₁.warmed
  · intro v hv target htg
    exact hstep₁ _ fun acts => by rw [doInvoke_state]; exact (hret v hv).trans htg
  · intro q hv
    exact hstep₁ _ fun acts => by rw [doInvoke_state]; exact hthr q hv
theorem zcallX {α S : Type} {mk : α → Option Value} {post : α ⊕ Nat → S → Prop} {W1 : S → va_W} {av : Array Value} {C Z : Nat} {Qd : Array Value → State → Outcome → State → Prop} (hr : zRunX p l e R s m args below meth c H locs cells slots mc ms (F0 m pc ls st0) rest (zQx mk post (dC, dI) W1 (va_A wc H.size) av) (va_A wc H.size))
    (hP : va_P (dC, dI) zcl ws H) (hD : va_D A ws) (hS : va_S A s.heap H locs) (hA : ∀ q, s.heap.size ≤ q → A q) (isC isR : List Nat) (hC : isC.map (fun i => ws[i]?) = wc.map some) (hR : isR.map (fun i => ws[i]?) = wr.map some) (hn : va_nd isR = true) (hdis : ∀ i ∈ isR, i ∉ isC)
    (hnh : c.exceptionTable.isEmpty = true) (hlocks : meth.locks = false) (hC9 : cells + mc ≤ C) (hZ9 : slots + ms ≤ Z)
    (kx : ∀ (k : Nat) (u : S) (t : State) (q : Addr), post (.inr k) u → va_P (dC, dI) zcl (wr ++ W1 u) t.heap → va_D A (wr ++ W1 u) → va_F A s t → zthr k q s t → Qd args s (.threw q) t)
    (kk : ∀ (r : α) (u : S) (H1 : Heap) (locs1 : List Loc), post (.inl r) u → va_P (dC, dI) zcl (wr ++ W1 u) H1 → va_D A (wr ++ W1 u) → va_S A s.heap H1 locs1 → W p l e R s m args below meth c H1 locs1 (cells + mc) (slots + ms) (zMQ below Qd args s C Z A) (F0 m (pc + 3) ls ((mk r).toList ++ rest))) :
    W p l e R s m args below meth c H locs cells slots (zMQ below Qd args s C Z A) (F0 m pc ls st0) := by
  have hF : ∀ q, va_A wc H.size q → A q := va_free hD hS hA isC hC
  intro T hT X0
  obtain ⟨o, st₀, t, T', L, h0, hW0, X', hL, hh, ⟨u, hP1, hD1, hFr, hcase⟩, hret, hthr⟩ := hr T hT X0
  have hk1 : ∀ q : Nat, q < H.size → ¬ va_A wc H.size q → T'.heap[q]? = H[q]? := fun q hq hnq => by rw [hh, hFr.2 q (by rw [h0]; exact hq) hnq, h0]
  have hz1 : H.size ≤ T'.heap.size := by rw [hh, ← h0]; exact hFr.1
  rw [← hh] at hP1
  obtain ⟨hPj, hDj⟩ := va_join hP hD isC isR hC hR hn hdis hk1 hF hP1 hD1
  have hS1 : va_S A s.heap T'.heap (locs ++ L) := by
    refine ⟨Nat.le_trans hS.1 hz1, fun q hq hnq => ?_, fun q hq => ?_⟩
    · rw [hk1 q (Nat.lt_of_lt_of_le hq hS.1) (fun h => hnq (hF q h)), hS.2.1 q hq hnq]
    · rcases List.mem_append.mp hq with h | h
      · exact hS.2.2 q h
      · exact hF _ (hL q h)
  rcases hcase with ⟨r, ho, hpost⟩ | ⟨k, q, ho, hpost, hthrow⟩
  · obtain ⟨t2, a1, b1⟩ := kk r u T'.heap (locs ++ L) hpost hPj hDj hS1 T' rfl X'
    exact ⟨t2, hret _ ho t2 a1, b1⟩
  · have he : c.exceptionTable.toList = [] := by simpa using hnh
    obtain ⟨g1, g2, g3, g4, g5⟩ := X'.leaveThrown q (g := { F0 m pc ls st0 with stack := rest }) rfl rfl rfl (fun x hx' => by rw [he] at hx'; cases hx') hlocks
    refine ⟨T'.setFrames (.throwing q :: below), (hthr q ho).trans g1, .threw q, g2, g3, ?_, locs ++ L, ⟨g4, g5.mono hC9 hZ9⟩, fun z hz => hS1.2.2 z hz⟩
    refine kx k u _ q hpost hPj hDj ⟨hS1.1, fun z hz hnz => hS1.2.1 z hz hnz⟩ ⟨?_, ?_⟩
    · exact Nat.le_trans (by rw [h0]; exact hS.1) hthrow.1
    · obtain ⟨ce, hce, hcv, hcf⟩ := hthrow.2
      refine ⟨ce, ?_, hcv, ?_⟩
      · show T'.heap[q]? = some ce
        rw [hh]; exact hce
      · rw [← hW0.alike.findClass]; exact hcf
end ZC

noncomputable def g_R_left (r : zR) : Option (Int32) := some (r.2.1 - r.1)
def q_R_left (dC : Nat → ClassId) (dI : Nat → Nat → Nat) (cB cI cL : ClassId) (A : Nat → Prop) (hR : Nat) (hT : Nat) (r : zR) (a : Int32) : Array Value → State → Outcome → State → Prop := va_Qi (fun (r : Int32) (u : Unit) => (r) = a) (fun u U => va_P (dC, dI) zcl [(hR, .inr (2, [.ref hT, .int r.1, .int r.2.1, .int r.2.2]))] U.heap ∧ va_D A [(hR, .inr (2, [.ref hT, .int r.1, .int r.2.1, .int r.2.2]))]) A
set_option maxRecDepth 100000 in
set_option maxHeartbeats 4000000 in
theorem k_R_left_0 {p : Program} {l : Launch} {e : Env} {R : Room} {s : State} {m : MethodId} {args : Array Value} {below : List Frame} {meth : Method} {c : Code} {dC : Nat → ClassId} {dI : Nat → Nat → Nat} {cB cI cL : ClassId} {A : Nat → Prop} {hT : Nat} (X : zx p s m args meth c R R_R b_R_left (some .int) 1 0 0) (hA : ∀ q, s.heap.size ≤ q → A q) (zz : zk dC dI cB cI cL A s)  (r : zR) (a : Int32) (hG : g_R_left r = some a) (hR : Nat) (H : Heap) (locs : List Loc) (hP : va_P (dC, dI) zcl [(hR, .inr (2, [.ref hT, .int r.1, .int r.2.1, .int r.2.2]))] H) (hD : va_D A [(hR, .inr (2, [.ref hT, .int r.1, .int r.2.1, .int r.2.2]))]) (hS : va_S A s.heap H locs) (ls : Array Slot) (hl : lv_has ls 1 [(0, .ref hR)]) : W p l e R s m args below meth c H locs 0 0 (MQ below (q_R_left dC dI cB cI cL A hR hT r a) args s 0 0 A) (F0 m 0 ls []) := by
  obtain ⟨hx, hb, hr, hml, hown, hts, hlocks, hRf, hRl⟩ := id X
  unfold g_R_left at hG
  refine lv_aload_n hx hb d_R_left_0 rfl (lv_at hl 0 rfl) ?_
  refine va_get (D := (dC, dI)) (ci := 2) (v := .int r.2.1) (C := R_R) (T := F_R) (N := 4) hx hb hts zi_R hown zz.1 hP 0 rfl rfl 2 (by decide) (hts (.fieldLink R_R 17 "WireCodec$Reader" "limit" "I") (zin_120)) (fun _ h9 => h9) rfl d_R_left_1 ?_
  refine lv_aload_n hx hb d_R_left_4 rfl (lv_at hl 0 rfl) ?_
  refine va_get (D := (dC, dI)) (ci := 2) (v := .int r.1) (C := R_R) (T := F_R) (N := 4) hx hb hts zi_R hown zz.1 hP 0 rfl rfl 1 (by decide) (hts (.fieldLink R_R 13 "WireCodec$Reader" "place" "I") (zin_119)) (fun _ h9 => h9) rfl d_R_left_5 ?_
  refine lv_isub hx hb d_R_left_8 ?_
  exact W.iret (v := r.2.1 - r.1) hx hb hr (fun t9 ht9 hW9 => ⟨⟨r.2.1 - r.1, (), rfl, Option.some.inj hG, by rw [ht9]; exact hP.sub [0] rfl, hD.sub [0] (by decide) rfl⟩, hS.F ht9⟩) hS.2.2 d_R_left_9
set_option maxRecDepth 100000 in
set_option maxHeartbeats 4000000 in
theorem c_R_left (l : Launch) (dC : Nat → ClassId) (dI : Nat → Nat → Nat) (cB cI cL : ClassId) (sz : Nat) (hR hT : Nat) (r : zR) (a : Int32) (hG : g_R_left r = some a) : Met l y_R_left (zw y_R_left b_R_left 1 (some .int)) ({ frames := 0, cells := 0, slots := 0, locals := 0 }) (va_Pc [.ref hR] (zpre dC dI cB cI cL sz [(hR, .inr (2, [.ref hT, .int r.1, .int r.2.1, .int r.2.2]))])) (q_R_left dC dI cB cI cL (va_A [(hR, .inr (2, [.ref hT, .int r.1, .int r.2.1, .int r.2.2]))] sz) hR hT r a) 0 0 (va_A [(hR, .inr (2, [.ref hT, .int r.1, .int r.2.1, .int r.2.2]))] sz) := by
  refine Met.ofW (cc := b_R_left) (maxL := 1) (ret := (some .int)) (by decide) rfl ?_
  intro p e s m args below meth c s₁ B hml hv
  obtain ⟨rfl, hsz, hP, zz, hD0⟩ := hv
  subst hsz
  have X := zx_of (F := 0) (L := 0) B hml (Nat.le_refl _) (Nat.le_refl _)
  have hD := hD0.self (sz := s.heap.size)
  have hA : ∀ q : Nat, s.heap.size ≤ q → va_A [(hR, .inr (2, [.ref hT, .int r.1, .int r.2.1, .int r.2.2]))] s.heap.size q := fun q h => Or.inr h
  have hl := lv_entry ([.ref hR]) (n := 1) (Nat.le_of_ble_eq_true rfl)
  rw [lg_entry_eq]
  generalize (lg_sl ([.ref hR]) ++ List.replicate (1 - (lg_sl ([.ref hR])).length) Slot.unset).toArray = ls at hl ⊢
  exact k_R_left_0 X hA zz r a hG hR _ _ hP hD va_S.rf ls hl
noncomputable def g_R_takeBytes_41 (r : zR) (v3 : Int32) : Option (Int32 × zR) := some (v3, r)
noncomputable def g_R_takeBytes_22 (r : zR) (v3 : Int32) : Option (Int32 × zR) := g_R_takeBytes_41 (r.1, r.2.1, (1 : Int32)) v3
noncomputable def g_R_takeBytes_c14 (r : zR) (v1 : Int64) (r_14 : Int32) : Option (Int32 × zR) := if (lg_cmp v1 r_14.toInt64) ≤ (0 : Int32) then (g_R_takeBytes_41 (r.1 + v1.toInt32, r.2.1, r.2.2) r.1) else (g_R_takeBytes_22 r r.1)
noncomputable def g_R_takeBytes (r : zR) (v1 : Int64) : Option (Int32 × zR) := if r.2.2 = (0 : Int32) then ((g_R_left r).bind (fun a => g_R_takeBytes_c14 r v1 a)) else (g_R_takeBytes_22 r r.1)
def q_R_takeBytes (dC : Nat → ClassId) (dI : Nat → Nat → Nat) (cB cI cL : ClassId) (A : Nat → Prop) (hR : Nat) (hT : Nat) (a : Int32 × zR) : Array Value → State → Outcome → State → Prop := va_Qi (fun (r : Int32) (u : zR) => (r, u) = a) (fun u U => va_P (dC, dI) zcl [(hR, .inr (2, [.ref hT, .int u.1, .int u.2.1, .int u.2.2]))] U.heap ∧ va_D A [(hR, .inr (2, [.ref hT, .int u.1, .int u.2.1, .int u.2.2]))]) A
set_option maxRecDepth 100000 in
set_option maxHeartbeats 4000000 in
theorem k_R_takeBytes_41 {p : Program} {l : Launch} {e : Env} {R : Room} {s : State} {m : MethodId} {args : Array Value} {below : List Frame} {meth : Method} {c : Code} {dC : Nat → ClassId} {dI : Nat → Nat → Nat} {cB cI cL : ClassId} {A : Nat → Prop} {hT : Nat} (X : zx p s m args meth c R R_R b_R_takeBytes (some .int) 4 1 20) (hA : ∀ q, s.heap.size ≤ q → A q) (zz : zk dC dI cB cI cL A s)  (r : zR) (v3 : Int32) (a : Int32 × zR) (hG : g_R_takeBytes_41 r v3 = some a) (hR : Nat) (H : Heap) (locs : List Loc) (hP : va_P (dC, dI) zcl [(hR, .inr (2, [.ref hT, .int r.1, .int r.2.1, .int r.2.2]))] H) (hD : va_D A [(hR, .inr (2, [.ref hT, .int r.1, .int r.2.1, .int r.2.2]))]) (hS : va_S A s.heap H locs) (ls : Array Slot) (hl : lv_has ls 4 [(3, .int v3)]) : W p l e R s m args below meth c H locs 0 0 (MQ below (q_R_takeBytes dC dI cB cI cL A hR hT a) args s 0 0 A) (F0 m 41 ls []) := by
  obtain ⟨hx, hb, hr, hml, hown, hts, hlocks, hRf, hRl⟩ := id X
  unfold g_R_takeBytes_41 at hG
  refine lv_iload_n hx hb d_R_takeBytes_41 rfl (lv_at hl 0 rfl) ?_
  exact W.iret (v := v3) hx hb hr (fun t9 ht9 hW9 => ⟨⟨v3, (r), rfl, Option.some.inj hG, by rw [ht9]; exact hP.sub [0] rfl, hD.sub [0] (by decide) rfl⟩, hS.F ht9⟩) hS.2.2 d_R_takeBytes_42
set_option maxRecDepth 100000 in
set_option maxHeartbeats 4000000 in
theorem k_R_takeBytes_22 {p : Program} {l : Launch} {e : Env} {R : Room} {s : State} {m : MethodId} {args : Array Value} {below : List Frame} {meth : Method} {c : Code} {dC : Nat → ClassId} {dI : Nat → Nat → Nat} {cB cI cL : ClassId} {A : Nat → Prop} {hT : Nat} (X : zx p s m args meth c R R_R b_R_takeBytes (some .int) 4 1 20) (hA : ∀ q, s.heap.size ≤ q → A q) (zz : zk dC dI cB cI cL A s)  (r : zR) (v3 : Int32) (a : Int32 × zR) (hG : g_R_takeBytes_22 r v3 = some a) (hR : Nat) (H : Heap) (locs : List Loc) (hP : va_P (dC, dI) zcl [(hR, .inr (2, [.ref hT, .int r.1, .int r.2.1, .int r.2.2]))] H) (hD : va_D A [(hR, .inr (2, [.ref hT, .int r.1, .int r.2.1, .int r.2.2]))]) (hS : va_S A s.heap H locs) (ls : Array Slot) (hl : lv_has ls 4 [(0, .ref hR), (3, .int v3)]) : W p l e R s m args below meth c H locs 0 0 (MQ below (q_R_takeBytes dC dI cB cI cL A hR hT a) args s 0 0 A) (F0 m 22 ls []) := by
  obtain ⟨hx, hb, hr, hml, hown, hts, hlocks, hRf, hRl⟩ := id X
  unfold g_R_takeBytes_22 at hG
  refine lv_aload_n hx hb d_R_takeBytes_22 rfl (lv_at hl 0 rfl) ?_
  refine lv_iconst (v := (1 : Int32)) hx hb d_R_takeBytes_23 (by decide) ?_
  refine va_put (D := (dC, dI)) (ci := 2) (v := .int (1 : Int32)) (ty := .boolean) (C := R_R) (T := F_R) (N := 4) hx hb hts zi_R zty_R zty_R_ok znm_R hown zz.1 hP hD hS 0 rfl rfl 3 (by decide) (hts (.fieldLink R_R 20 "WireCodec$Reader" "over" "Z") (zin_121)) (fun _ h9 => h9) rfl (by decide +kernel) rfl rfl (Nat.le_of_ble_eq_true rfl) d_R_takeBytes_24 (fun H locs hP hD hS => ?_)
  have hP : va_P (dC, dI) zcl [(hR, .inr (2, [.ref hT, .int r.1, .int r.2.1, .int (1 : Int32)]))] H := hP
  have hD : va_D A [(hR, .inr (2, [.ref hT, .int r.1, .int r.2.1, .int (1 : Int32)]))] := hD
  refine lv_goto (tgt := 41) hx hb d_R_takeBytes_27 (by decide) ?_
  exact k_R_takeBytes_41 X hA zz (r.1, r.2.1, (1 : Int32)) v3 _ hG hR _ _ (hP.sub [0] rfl) (hD.sub [0] (by decide) rfl) hS _ (lv_sub hl [1] rfl)
set_option maxRecDepth 100000 in
set_option maxHeartbeats 4000000 in
theorem k_R_takeBytes_0 {p : Program} {l : Launch} {e : Env} {R : Room} {s : State} {m : MethodId} {args : Array Value} {below : List Frame} {meth : Method} {c : Code} {dC : Nat → ClassId} {dI : Nat → Nat → Nat} {cB cI cL : ClassId} {A : Nat → Prop} {hT : Nat} (X : zx p s m args meth c R R_R b_R_takeBytes (some .int) 4 1 20) (hA : ∀ q, s.heap.size ≤ q → A q) (zz : zk dC dI cB cI cL A s)  (r : zR) (v1 : Int64) (a : Int32 × zR) (hG : g_R_takeBytes r v1 = some a) (hR : Nat) (H : Heap) (locs : List Loc) (hP : va_P (dC, dI) zcl [(hR, .inr (2, [.ref hT, .int r.1, .int r.2.1, .int r.2.2]))] H) (hD : va_D A [(hR, .inr (2, [.ref hT, .int r.1, .int r.2.1, .int r.2.2]))]) (hS : va_S A s.heap H locs) (ls : Array Slot) (hl : lv_has ls 4 [(0, .ref hR), (1, .long v1)]) : W p l e R s m args below meth c H locs 0 0 (MQ below (q_R_takeBytes dC dI cB cI cL A hR hT a) args s 0 0 A) (F0 m 0 ls []) := by
  obtain ⟨hx, hb, hr, hml, hown, hts, hlocks, hRf, hRl⟩ := id X
  unfold g_R_takeBytes at hG
  refine lv_aload_n hx hb d_R_takeBytes_0 rfl (lv_at hl 0 rfl) ?_
  refine va_get (D := (dC, dI)) (ci := 2) (v := .int r.1) (C := R_R) (T := F_R) (N := 4) hx hb hts zi_R hown zz.1 hP 0 rfl rfl 1 (by decide) (hts (.fieldLink R_R 13 "WireCodec$Reader" "place" "I") (zin_119)) (fun _ h9 => h9) rfl d_R_takeBytes_1 ?_
  refine lv_istore_n (lv' := [(3, .int r.1), (0, .ref hR), (1, .long v1)]) hx hb d_R_takeBytes_4 rfl hl (by decide) rfl (fun ls hl => ?_)
  refine lv_aload_n hx hb d_R_takeBytes_5 rfl (lv_at hl 1 rfl) ?_
  refine va_get (D := (dC, dI)) (ci := 2) (v := .int r.2.2) (C := R_R) (T := F_R) (N := 4) hx hb hts zi_R hown zz.1 hP 0 rfl rfl 3 (by decide) (hts (.fieldLink R_R 20 "WireCodec$Reader" "over" "Z") (zin_121)) (fun _ h9 => h9) rfl d_R_takeBytes_6 ?_
  refine lv_if_ne (tgt := 22) hx hb d_R_takeBytes_9 (by decide) (fun hc => ?_) (fun hc => ?_)
  · have hG := zf hG hc
    exact k_R_takeBytes_22 X hA zz r r.1 _ hG hR _ _ (hP.sub [0] rfl) (hD.sub [0] (by decide) rfl) hS _ (lv_sub hl [1, 0] rfl)
  · have hG := zt hG hc
    refine lv_lload_n hx hb d_R_takeBytes_12 rfl (lv_at hl 2 rfl) ?_
    refine lv_aload_n hx hb d_R_takeBytes_13 rfl (lv_at hl 1 rfl) ?_
    obtain ⟨a_14, hx_14, hG⟩ := zb hG
    have hr_14 := zrunV (p := p) (e := e) (below := below) (meth := meth) (As := []) (rest := [.long v1]) (st0 := [.ref hR, .long v1]) (cells := 0) (slots := 0) X zz hP hD hS hA [0] (by decide) rfl (c_R_left l dC dI cB cI cL H.size hR hT r _ hx_14) zy_R_left zv_R_left (hts (.methodLink R_R 24 y_R_left) (zin_122)) hl rfl rfl d_R_takeBytes_14 (lv_room (Nat.le_of_ble_eq_true rfl)) rfl rfl ⟨Nat.le_trans (Nat.le_of_ble_eq_true rfl) hRf, Nat.le_trans (Nat.le_of_ble_eq_true rfl) hRl⟩ ⟨Nat.zero_le _, Nat.zero_le _⟩ 0 2 rfl rfl
    refine zcalli (wr := []) hr_14 hP hD hS hA [0] [] rfl rfl (by decide) (by decide) (fun r_14 u_14 H locs hw_14 hP hD hS => ?_)
    subst hw_14
    have hP : va_P (dC, dI) zcl [(hR, .inr (2, [.ref hT, .int r.1, .int r.2.1, .int r.2.2]))] H := hP
    have hD : va_D A [(hR, .inr (2, [.ref hT, .int r.1, .int r.2.1, .int r.2.2]))] := hD
    have hG : g_R_takeBytes_c14 r v1 r_14 = some a := hG
    unfold g_R_takeBytes_c14 at hG
    refine lv_i2l hx hb d_R_takeBytes_17 rfl ?_
    refine W.lcmp hx hb d_R_takeBytes_18 ?_
    refine lv_if_le (tgt := 30) hx hb d_R_takeBytes_19 (by decide) (fun hc => ?_) (fun hc => ?_)
    · have hG := zt hG hc
      refine lv_aload_n hx hb d_R_takeBytes_30 rfl (lv_at hl 1 rfl) ?_
      refine lv_dup hx hb d_R_takeBytes_31 rfl ?_
      refine va_get (D := (dC, dI)) (ci := 2) (v := .int r.1) (C := R_R) (T := F_R) (N := 4) hx hb hts zi_R hown zz.1 hP 0 rfl rfl 1 (by decide) (hts (.fieldLink R_R 13 "WireCodec$Reader" "place" "I") (zin_119)) (fun _ h9 => h9) rfl d_R_takeBytes_32 ?_
      refine lv_lload_n hx hb d_R_takeBytes_35 rfl (lv_at hl 2 rfl) ?_
      refine lv_l2i hx hb d_R_takeBytes_36 rfl ?_
      refine lv_iadd hx hb d_R_takeBytes_37 ?_
      refine va_put (D := (dC, dI)) (ci := 2) (v := .int (r.1 + v1.toInt32)) (ty := .int) (C := R_R) (T := F_R) (N := 4) hx hb hts zi_R zty_R zty_R_ok znm_R hown zz.1 hP hD hS 0 rfl rfl 1 (by decide) (hts (.fieldLink R_R 13 "WireCodec$Reader" "place" "I") (zin_119)) (fun _ h9 => h9) rfl (by decide +kernel) rfl rfl (Nat.le_of_ble_eq_true rfl) d_R_takeBytes_38 (fun H locs hP hD hS => ?_)
      have hP : va_P (dC, dI) zcl [(hR, .inr (2, [.ref hT, .int (r.1 + v1.toInt32), .int r.2.1, .int r.2.2]))] H := hP
      have hD : va_D A [(hR, .inr (2, [.ref hT, .int (r.1 + v1.toInt32), .int r.2.1, .int r.2.2]))] := hD
      exact k_R_takeBytes_41 X hA zz (r.1 + v1.toInt32, r.2.1, r.2.2) r.1 _ hG hR _ _ (hP.sub [0] rfl) (hD.sub [0] (by decide) rfl) hS _ (lv_sub hl [0] rfl)
    · have hG := zf hG hc
      exact k_R_takeBytes_22 X hA zz r r.1 _ hG hR _ _ (hP.sub [0] rfl) (hD.sub [0] (by decide) rfl) hS _ (lv_sub hl [1, 0] rfl)
set_option maxRecDepth 100000 in
set_option maxHeartbeats 4000000 in
theorem c_R_takeBytes (l : Launch) (dC : Nat → ClassId) (dI : Nat → Nat → Nat) (cB cI cL : ClassId) (sz : Nat) (hR hT : Nat) (r : zR) (v1 : Int64) (a : Int32 × zR) (hG : g_R_takeBytes r v1 = some a) : Met l y_R_takeBytes (zw y_R_takeBytes b_R_takeBytes 4 (some .int)) ({ frames := 1, cells := 0, slots := 0, locals := 20 }) (va_Pc [.ref hR, .long v1] (zpre dC dI cB cI cL sz [(hR, .inr (2, [.ref hT, .int r.1, .int r.2.1, .int r.2.2]))])) (q_R_takeBytes dC dI cB cI cL (va_A [(hR, .inr (2, [.ref hT, .int r.1, .int r.2.1, .int r.2.2]))] sz) hR hT a) 0 0 (va_A [(hR, .inr (2, [.ref hT, .int r.1, .int r.2.1, .int r.2.2]))] sz) := by
  refine Met.ofW (cc := b_R_takeBytes) (maxL := 4) (ret := (some .int)) (by decide) rfl ?_
  intro p e s m args below meth c s₁ B hml hv
  obtain ⟨rfl, hsz, hP, zz, hD0⟩ := hv
  subst hsz
  have X := zx_of (F := 1) (L := 20) B hml (Nat.le_refl _) (Nat.le_refl _)
  have hD := hD0.self (sz := s.heap.size)
  have hA : ∀ q : Nat, s.heap.size ≤ q → va_A [(hR, .inr (2, [.ref hT, .int r.1, .int r.2.1, .int r.2.2]))] s.heap.size q := fun q h => Or.inr h
  have hl := lv_entry ([.ref hR, .long v1]) (n := 4) (Nat.le_of_ble_eq_true rfl)
  rw [lg_entry_eq]
  generalize (lg_sl ([.ref hR, .long v1]) ++ List.replicate (4 - (lg_sl ([.ref hR, .long v1])).length) Slot.unset).toArray = ls at hl ⊢
  exact k_R_takeBytes_0 X hA zz r v1 a hG hR _ _ hP hD va_S.rf ls hl
noncomputable def g_T_byteAt_27 (t : zT) (s0 : Int32) : Option (Int32) := some (s0)
noncomputable def g_T_byteAt_26 (t : zT) : Option (Int32) := g_T_byteAt_27 t (0 : Int32)
noncomputable def g_T_byteAt (t : zT) (v1 : Int32) : Option (Int32) := if v1 < (0 : Int32) then (g_T_byteAt_26 t) else (if (nI t.2.1) ≤ v1 then (g_T_byteAt_26 t) else (zg (vp_in v1 t.2.1) (g_T_byteAt_27 t ((t.1 v1.toNatClampNeg) &&& (255 : Int32)))))
def q_T_byteAt (dC : Nat → ClassId) (dI : Nat → Nat → Nat) (cB cI cL : ClassId) (A : Nat → Prop) (hT : Nat) (hT_bytes : Nat) (t : zT) (a : Int32) : Array Value → State → Outcome → State → Prop := va_Qi (fun (r : Int32) (u : Unit) => (r) = a) (fun u U => va_P (dC, dI) zcl [(hT, .inr (1, [.ref hT_bytes, .int t.2.2.1, .int t.2.2.2])), (hT_bytes, .inl (cB, t.2.1, .inl t.1))] U.heap ∧ va_D A [(hT, .inr (1, [.ref hT_bytes, .int t.2.2.1, .int t.2.2.2])), (hT_bytes, .inl (cB, t.2.1, .inl t.1))]) A
set_option maxRecDepth 100000 in
set_option maxHeartbeats 4000000 in
theorem k_T_byteAt_27 {p : Program} {l : Launch} {e : Env} {R : Room} {s : State} {m : MethodId} {args : Array Value} {below : List Frame} {meth : Method} {c : Code} {dC : Nat → ClassId} {dI : Nat → Nat → Nat} {cB cI cL : ClassId} {A : Nat → Prop} (X : zx p s m args meth c R R_T b_T_byteAt (some .int) 2 0 0) (hA : ∀ q, s.heap.size ≤ q → A q) (zz : zk dC dI cB cI cL A s)  (t : zT) (s0 : Int32) (a : Int32) (hG : g_T_byteAt_27 t s0 = some a) (hT hT_bytes : Nat) (H : Heap) (locs : List Loc) (hP : va_P (dC, dI) zcl [(hT, .inr (1, [.ref hT_bytes, .int t.2.2.1, .int t.2.2.2])), (hT_bytes, .inl (cB, t.2.1, .inl t.1))] H) (hD : va_D A [(hT, .inr (1, [.ref hT_bytes, .int t.2.2.1, .int t.2.2.2])), (hT_bytes, .inl (cB, t.2.1, .inl t.1))]) (hS : va_S A s.heap H locs) (ls : Array Slot) (hl : lv_has ls 2 []) : W p l e R s m args below meth c H locs 0 0 (MQ below (q_T_byteAt dC dI cB cI cL A hT hT_bytes t a) args s 0 0 A) (F0 m 27 ls [.int s0]) := by
  obtain ⟨hx, hb, hr, hml, hown, hts, hlocks, hRf, hRl⟩ := id X
  unfold g_T_byteAt_27 at hG
  exact W.iret (v := s0) hx hb hr (fun t9 ht9 hW9 => ⟨⟨s0, (), rfl, Option.some.inj hG, by rw [ht9]; exact hP.sub [0, 1] rfl, hD.sub [0, 1] (by decide) rfl⟩, hS.F ht9⟩) hS.2.2 d_T_byteAt_27
set_option maxRecDepth 100000 in
set_option maxHeartbeats 4000000 in
theorem k_T_byteAt_26 {p : Program} {l : Launch} {e : Env} {R : Room} {s : State} {m : MethodId} {args : Array Value} {below : List Frame} {meth : Method} {c : Code} {dC : Nat → ClassId} {dI : Nat → Nat → Nat} {cB cI cL : ClassId} {A : Nat → Prop} (X : zx p s m args meth c R R_T b_T_byteAt (some .int) 2 0 0) (hA : ∀ q, s.heap.size ≤ q → A q) (zz : zk dC dI cB cI cL A s)  (t : zT) (a : Int32) (hG : g_T_byteAt_26 t = some a) (hT hT_bytes : Nat) (H : Heap) (locs : List Loc) (hP : va_P (dC, dI) zcl [(hT, .inr (1, [.ref hT_bytes, .int t.2.2.1, .int t.2.2.2])), (hT_bytes, .inl (cB, t.2.1, .inl t.1))] H) (hD : va_D A [(hT, .inr (1, [.ref hT_bytes, .int t.2.2.1, .int t.2.2.2])), (hT_bytes, .inl (cB, t.2.1, .inl t.1))]) (hS : va_S A s.heap H locs) (ls : Array Slot) (hl : lv_has ls 2 []) : W p l e R s m args below meth c H locs 0 0 (MQ below (q_T_byteAt dC dI cB cI cL A hT hT_bytes t a) args s 0 0 A) (F0 m 26 ls []) := by
  obtain ⟨hx, hb, hr, hml, hown, hts, hlocks, hRf, hRl⟩ := id X
  unfold g_T_byteAt_26 at hG
  refine lv_iconst (v := (0 : Int32)) hx hb d_T_byteAt_26 (by decide) ?_
  exact k_T_byteAt_27 X hA zz t (0 : Int32) _ hG hT hT_bytes _ _ (hP.sub [0, 1] rfl) (hD.sub [0, 1] (by decide) rfl) hS _ (lv_sub hl [] rfl)
set_option maxRecDepth 100000 in
set_option maxHeartbeats 4000000 in
theorem k_T_byteAt_0 {p : Program} {l : Launch} {e : Env} {R : Room} {s : State} {m : MethodId} {args : Array Value} {below : List Frame} {meth : Method} {c : Code} {dC : Nat → ClassId} {dI : Nat → Nat → Nat} {cB cI cL : ClassId} {A : Nat → Prop} (X : zx p s m args meth c R R_T b_T_byteAt (some .int) 2 0 0) (hA : ∀ q, s.heap.size ≤ q → A q) (zz : zk dC dI cB cI cL A s)  (t : zT) (v1 : Int32) (a : Int32) (hG : g_T_byteAt t v1 = some a) (hT hT_bytes : Nat) (H : Heap) (locs : List Loc) (hP : va_P (dC, dI) zcl [(hT, .inr (1, [.ref hT_bytes, .int t.2.2.1, .int t.2.2.2])), (hT_bytes, .inl (cB, t.2.1, .inl t.1))] H) (hD : va_D A [(hT, .inr (1, [.ref hT_bytes, .int t.2.2.1, .int t.2.2.2])), (hT_bytes, .inl (cB, t.2.1, .inl t.1))]) (hS : va_S A s.heap H locs) (ls : Array Slot) (hl : lv_has ls 2 [(0, .ref hT), (1, .int v1)]) : W p l e R s m args below meth c H locs 0 0 (MQ below (q_T_byteAt dC dI cB cI cL A hT hT_bytes t a) args s 0 0 A) (F0 m 0 ls []) := by
  obtain ⟨hx, hb, hr, hml, hown, hts, hlocks, hRf, hRl⟩ := id X
  unfold g_T_byteAt at hG
  refine lv_iload_n hx hb d_T_byteAt_0 rfl (lv_at hl 1 rfl) ?_
  refine lv_if_lt (tgt := 26) hx hb d_T_byteAt_1 (by decide) (fun hc => ?_) (fun hc => ?_)
  · have hG := zt hG hc
    exact k_T_byteAt_26 X hA zz t _ hG hT hT_bytes _ _ (hP.sub [0, 1] rfl) (hD.sub [0, 1] (by decide) rfl) hS _ (lv_sub hl [] rfl)
  · have hG := zf hG hc
    refine lv_iload_n hx hb d_T_byteAt_4 rfl (lv_at hl 1 rfl) ?_
    refine lv_aload_n hx hb d_T_byteAt_5 rfl (lv_at hl 0 rfl) ?_
    refine va_get (D := (dC, dI)) (ci := 1) (v := .ref hT_bytes) (C := R_T) (T := F_T) (N := 3) hx hb hts zi_T hown zz.1 hP 0 rfl rfl 0 (by decide) (hts (.fieldLink R_T 9 "WireCodec$Tape" "bytes" "[B") (zin_135)) (fun _ h9 => h9) rfl d_T_byteAt_6 ?_
    refine va_alen (v := nI t.2.1) hx hb zz.1 hP 1 0 rfl rfl rfl d_T_byteAt_9 ?_
    refine lv_icmp_ge (tgt := 26) hx hb d_T_byteAt_10 (by decide) (fun hc => ?_) (fun hc => ?_)
    · have hG := zt hG hc
      exact k_T_byteAt_26 X hA zz t _ hG hT hT_bytes _ _ (hP.sub [0, 1] rfl) (hD.sub [0, 1] (by decide) rfl) hS _ (lv_sub hl [] rfl)
    · have hG := zf hG hc
      refine lv_aload_n hx hb d_T_byteAt_13 rfl (lv_at hl 0 rfl) ?_
      refine va_get (D := (dC, dI)) (ci := 1) (v := .ref hT_bytes) (C := R_T) (T := F_T) (N := 3) hx hb hts zi_T hown zz.1 hP 0 rfl rfl 0 (by decide) (hts (.fieldLink R_T 9 "WireCodec$Tape" "bytes" "[B") (zin_135)) (fun _ h9 => h9) rfl d_T_byteAt_14 ?_
      refine lv_iload_n hx hb d_T_byteAt_17 rfl (lv_at hl 1 rfl) ?_
      obtain ⟨hin, hG⟩ := zgd hG
      refine va_bald hx hb zz.1 hP 1 0 rfl rfl hin d_T_byteAt_18 ?_
      refine lv_sipush (v := (255 : Int32)) hx hb d_T_byteAt_19 (by decide) ?_
      refine lv_iand hx hb d_T_byteAt_22 ?_
      refine lv_goto (tgt := 27) hx hb d_T_byteAt_23 (by decide) ?_
      exact k_T_byteAt_27 X hA zz t ((t.1 v1.toNatClampNeg) &&& (255 : Int32)) _ hG hT hT_bytes _ _ (hP.sub [0, 1] rfl) (hD.sub [0, 1] (by decide) rfl) hS _ (lv_sub hl [] rfl)
set_option maxRecDepth 100000 in
set_option maxHeartbeats 4000000 in
theorem c_T_byteAt (l : Launch) (dC : Nat → ClassId) (dI : Nat → Nat → Nat) (cB cI cL : ClassId) (sz : Nat) (hT hT_bytes : Nat) (t : zT) (v1 : Int32) (a : Int32) (hG : g_T_byteAt t v1 = some a) : Met l y_T_byteAt (zw y_T_byteAt b_T_byteAt 2 (some .int)) ({ frames := 0, cells := 0, slots := 0, locals := 0 }) (va_Pc [.ref hT, .int v1] (zpre dC dI cB cI cL sz [(hT, .inr (1, [.ref hT_bytes, .int t.2.2.1, .int t.2.2.2])), (hT_bytes, .inl (cB, t.2.1, .inl t.1))])) (q_T_byteAt dC dI cB cI cL (va_A [(hT, .inr (1, [.ref hT_bytes, .int t.2.2.1, .int t.2.2.2])), (hT_bytes, .inl (cB, t.2.1, .inl t.1))] sz) hT hT_bytes t a) 0 0 (va_A [(hT, .inr (1, [.ref hT_bytes, .int t.2.2.1, .int t.2.2.2])), (hT_bytes, .inl (cB, t.2.1, .inl t.1))] sz) := by
  refine Met.ofW (cc := b_T_byteAt) (maxL := 2) (ret := (some .int)) (by decide) rfl ?_
  intro p e s m args below meth c s₁ B hml hv
  obtain ⟨rfl, hsz, hP, zz, hD0⟩ := hv
  subst hsz
  have X := zx_of (F := 0) (L := 0) B hml (Nat.le_refl _) (Nat.le_refl _)
  have hD := hD0.self (sz := s.heap.size)
  have hA : ∀ q : Nat, s.heap.size ≤ q → va_A [(hT, .inr (1, [.ref hT_bytes, .int t.2.2.1, .int t.2.2.2])), (hT_bytes, .inl (cB, t.2.1, .inl t.1))] s.heap.size q := fun q h => Or.inr h
  have hl := lv_entry ([.ref hT, .int v1]) (n := 2) (Nat.le_of_ble_eq_true rfl)
  rw [lg_entry_eq]
  generalize (lg_sl ([.ref hT, .int v1]) ++ List.replicate (2 - (lg_sl ([.ref hT, .int v1])).length) Slot.unset).toArray = ls at hl ⊢
  exact k_T_byteAt_0 X hA zz t v1 a hG hT hT_bytes _ _ hP hD va_S.rf ls hl
noncomputable def g_T_wordAt_47 (N : Nat) (kr : zT → Int32 → Int32 → Int64 → Int32 → Option (Int64)) (t : zT) (v1 : Int32) (v2 : Int32) (v5 : Int32) (s0 : Int32) (s1 : Int64) : Option (Int64) := kr t v1 v2 (s1 ||| s0.toInt64) (v5 + 1)
noncomputable def g_T_wordAt_46 (N : Nat) (kr : zT → Int32 → Int32 → Int64 → Int32 → Option (Int64)) (t : zT) (v1 : Int32) (v2 : Int32) (v5 : Int32) (s0 : Int64) : Option (Int64) := g_T_wordAt_47 N kr t v1 v2 v5 (0 : Int32) s0
noncomputable def g_T_wordAt_5_b (N : Nat) (kr : zT → Int32 → Int32 → Int64 → Int32 → Option (Int64)) (t : zT) (v1 : Int32) (v2 : Int32) (v3 : Int64) (v5 : Int32) : Option (Int64) := if (v1 + v2) ≤ v5 then (some (v3)) else (if v5 < (0 : Int32) then (g_T_wordAt_46 N kr t v1 v2 v5 (v3 <<< ((8 : Int32).toInt64 &&& 63))) else (if (nI t.2.1) ≤ v5 then (g_T_wordAt_46 N kr t v1 v2 v5 (v3 <<< ((8 : Int32).toInt64 &&& 63))) else (zg (vp_in v5 t.2.1) (g_T_wordAt_47 N kr t v1 v2 v5 ((t.1 v5.toNatClampNeg) &&& (255 : Int32)) (v3 <<< ((8 : Int32).toInt64 &&& 63))))))
noncomputable def g_T_wordAt_5 (N : Nat) : Nat → zT → Int32 → Int32 → Int64 → Int32 → Option (Int64)
  | 0 => fun _ _ _ _ _ => none
  | k + 1 => fun t v1 v2 v3 v5 => g_T_wordAt_5_b N (g_T_wordAt_5 N k) t v1 v2 v3 v5
noncomputable def g_T_wordAt (N : Nat) (t : zT) (v1 : Int32) (v2 : Int32) : Option (Int64) := g_T_wordAt_5 N N t v1 v2 (0 : Int64) v1
def q_T_wordAt (dC : Nat → ClassId) (dI : Nat → Nat → Nat) (cB cI cL : ClassId) (A : Nat → Prop) (hT : Nat) (hT_bytes : Nat) (t : zT) (a : Int64) : Array Value → State → Outcome → State → Prop := va_Ql (fun (r : Int64) (u : Unit) => (r) = a) (fun u U => va_P (dC, dI) zcl [(hT, .inr (1, [.ref hT_bytes, .int t.2.2.1, .int t.2.2.2])), (hT_bytes, .inl (cB, t.2.1, .inl t.1))] U.heap ∧ va_D A [(hT, .inr (1, [.ref hT_bytes, .int t.2.2.1, .int t.2.2.2])), (hT_bytes, .inl (cB, t.2.1, .inl t.1))]) A
set_option maxRecDepth 100000 in
set_option maxHeartbeats 4000000 in
theorem k_T_wordAt_47 {p : Program} {l : Launch} {e : Env} {R : Room} {s : State} {m : MethodId} {args : Array Value} {below : List Frame} {meth : Method} {c : Code} {dC : Nat → ClassId} {dI : Nat → Nat → Nat} {cB cI cL : ClassId} {A : Nat → Prop} (kr : zT → Int32 → Int32 → Int64 → Int32 → Option (Int64)) (hrec : ∀ (t : zT) (v1 : Int32) (v2 : Int32) (v3 : Int64) (v5 : Int32) (a : Int64), kr t v1 v2 v3 v5 = some a → ∀ (hT hT_bytes : Nat) (H : Heap) (locs : List Loc), va_P (dC, dI) zcl [(hT, .inr (1, [.ref hT_bytes, .int t.2.2.1, .int t.2.2.2])), (hT_bytes, .inl (cB, t.2.1, .inl t.1))] H → va_D A [(hT, .inr (1, [.ref hT_bytes, .int t.2.2.1, .int t.2.2.2])), (hT_bytes, .inl (cB, t.2.1, .inl t.1))] → va_S A s.heap H locs → ∀ ls : Array Slot, lv_has ls 6 [(0, .ref hT), (1, .int v1), (2, .int v2), (3, .long v3), (5, .int v5)] → W p l e R s m args below meth c H locs 0 0 (MQ below (q_T_wordAt dC dI cB cI cL A hT hT_bytes t a) args s 0 0 A) (F0 m 5 ls [])) (X : zx p s m args meth c R R_T b_T_wordAt (some .long) 6 0 0) (hA : ∀ q, s.heap.size ≤ q → A q) (zz : zk dC dI cB cI cL A s)  (N : Nat) (t : zT) (v1 : Int32) (v2 : Int32) (v5 : Int32) (s0 : Int32) (s1 : Int64) (a : Int64) (hG : g_T_wordAt_47 N kr t v1 v2 v5 s0 s1 = some a) (hT hT_bytes : Nat) (H : Heap) (locs : List Loc) (hP : va_P (dC, dI) zcl [(hT, .inr (1, [.ref hT_bytes, .int t.2.2.1, .int t.2.2.2])), (hT_bytes, .inl (cB, t.2.1, .inl t.1))] H) (hD : va_D A [(hT, .inr (1, [.ref hT_bytes, .int t.2.2.1, .int t.2.2.2])), (hT_bytes, .inl (cB, t.2.1, .inl t.1))]) (hS : va_S A s.heap H locs) (ls : Array Slot) (hl : lv_has ls 6 [(0, .ref hT), (1, .int v1), (2, .int v2), (5, .int v5)]) : W p l e R s m args below meth c H locs 0 0 (MQ below (q_T_wordAt dC dI cB cI cL A hT hT_bytes t a) args s 0 0 A) (F0 m 47 ls [.int s0, .long s1]) := by
  obtain ⟨hx, hb, hr, hml, hown, hts, hlocks, hRf, hRl⟩ := id X
  unfold g_T_wordAt_47 at hG
  refine lv_i2l hx hb d_T_wordAt_47 rfl ?_
  refine lv_lor hx hb d_T_wordAt_48 ?_
  refine lv_lstore_n (lv' := [(3, .long (s1 ||| s0.toInt64)), (0, .ref hT), (1, .int v1), (2, .int v2), (5, .int v5)]) hx hb d_T_wordAt_49 rfl hl (by decide) rfl (fun ls hl => ?_)
  refine lv_iinc (v := v5 + 1) (lv' := [(5, .int (v5 + 1)), (3, .long (s1 ||| s0.toInt64)), (0, .ref hT), (1, .int v1), (2, .int v2)]) hx hb d_T_wordAt_50 hl (k := 4) rfl rfl (by decide) rfl (fun ls hl => ?_)
  refine lv_goto (tgt := 5) hx hb d_T_wordAt_53 (by decide) ?_
  exact hrec t v1 v2 (s1 ||| s0.toInt64) (v5 + 1) _ hG hT hT_bytes _ _ (hP.sub [0, 1] rfl) (hD.sub [0, 1] (by decide) rfl) hS _ (lv_sub hl [2, 3, 4, 1, 0] rfl)
set_option maxRecDepth 100000 in
set_option maxHeartbeats 4000000 in
theorem k_T_wordAt_46 {p : Program} {l : Launch} {e : Env} {R : Room} {s : State} {m : MethodId} {args : Array Value} {below : List Frame} {meth : Method} {c : Code} {dC : Nat → ClassId} {dI : Nat → Nat → Nat} {cB cI cL : ClassId} {A : Nat → Prop} (kr : zT → Int32 → Int32 → Int64 → Int32 → Option (Int64)) (hrec : ∀ (t : zT) (v1 : Int32) (v2 : Int32) (v3 : Int64) (v5 : Int32) (a : Int64), kr t v1 v2 v3 v5 = some a → ∀ (hT hT_bytes : Nat) (H : Heap) (locs : List Loc), va_P (dC, dI) zcl [(hT, .inr (1, [.ref hT_bytes, .int t.2.2.1, .int t.2.2.2])), (hT_bytes, .inl (cB, t.2.1, .inl t.1))] H → va_D A [(hT, .inr (1, [.ref hT_bytes, .int t.2.2.1, .int t.2.2.2])), (hT_bytes, .inl (cB, t.2.1, .inl t.1))] → va_S A s.heap H locs → ∀ ls : Array Slot, lv_has ls 6 [(0, .ref hT), (1, .int v1), (2, .int v2), (3, .long v3), (5, .int v5)] → W p l e R s m args below meth c H locs 0 0 (MQ below (q_T_wordAt dC dI cB cI cL A hT hT_bytes t a) args s 0 0 A) (F0 m 5 ls [])) (X : zx p s m args meth c R R_T b_T_wordAt (some .long) 6 0 0) (hA : ∀ q, s.heap.size ≤ q → A q) (zz : zk dC dI cB cI cL A s)  (N : Nat) (t : zT) (v1 : Int32) (v2 : Int32) (v5 : Int32) (s0 : Int64) (a : Int64) (hG : g_T_wordAt_46 N kr t v1 v2 v5 s0 = some a) (hT hT_bytes : Nat) (H : Heap) (locs : List Loc) (hP : va_P (dC, dI) zcl [(hT, .inr (1, [.ref hT_bytes, .int t.2.2.1, .int t.2.2.2])), (hT_bytes, .inl (cB, t.2.1, .inl t.1))] H) (hD : va_D A [(hT, .inr (1, [.ref hT_bytes, .int t.2.2.1, .int t.2.2.2])), (hT_bytes, .inl (cB, t.2.1, .inl t.1))]) (hS : va_S A s.heap H locs) (ls : Array Slot) (hl : lv_has ls 6 [(0, .ref hT), (1, .int v1), (2, .int v2), (5, .int v5)]) : W p l e R s m args below meth c H locs 0 0 (MQ below (q_T_wordAt dC dI cB cI cL A hT hT_bytes t a) args s 0 0 A) (F0 m 46 ls [.long s0]) := by
  obtain ⟨hx, hb, hr, hml, hown, hts, hlocks, hRf, hRl⟩ := id X
  unfold g_T_wordAt_46 at hG
  refine lv_iconst (v := (0 : Int32)) hx hb d_T_wordAt_46 (by decide) ?_
  exact k_T_wordAt_47 kr hrec X hA zz N t v1 v2 v5 (0 : Int32) s0 _ hG hT hT_bytes _ _ (hP.sub [0, 1] rfl) (hD.sub [0, 1] (by decide) rfl) hS _ (lv_sub hl [0, 1, 2, 3] rfl)
set_option maxRecDepth 100000 in
set_option maxHeartbeats 4000000 in
theorem k_T_wordAt_5_b {p : Program} {l : Launch} {e : Env} {R : Room} {s : State} {m : MethodId} {args : Array Value} {below : List Frame} {meth : Method} {c : Code} {dC : Nat → ClassId} {dI : Nat → Nat → Nat} {cB cI cL : ClassId} {A : Nat → Prop} (kr : zT → Int32 → Int32 → Int64 → Int32 → Option (Int64)) (hrec : ∀ (t : zT) (v1 : Int32) (v2 : Int32) (v3 : Int64) (v5 : Int32) (a : Int64), kr t v1 v2 v3 v5 = some a → ∀ (hT hT_bytes : Nat) (H : Heap) (locs : List Loc), va_P (dC, dI) zcl [(hT, .inr (1, [.ref hT_bytes, .int t.2.2.1, .int t.2.2.2])), (hT_bytes, .inl (cB, t.2.1, .inl t.1))] H → va_D A [(hT, .inr (1, [.ref hT_bytes, .int t.2.2.1, .int t.2.2.2])), (hT_bytes, .inl (cB, t.2.1, .inl t.1))] → va_S A s.heap H locs → ∀ ls : Array Slot, lv_has ls 6 [(0, .ref hT), (1, .int v1), (2, .int v2), (3, .long v3), (5, .int v5)] → W p l e R s m args below meth c H locs 0 0 (MQ below (q_T_wordAt dC dI cB cI cL A hT hT_bytes t a) args s 0 0 A) (F0 m 5 ls [])) (X : zx p s m args meth c R R_T b_T_wordAt (some .long) 6 0 0) (hA : ∀ q, s.heap.size ≤ q → A q) (zz : zk dC dI cB cI cL A s)  (N : Nat) (t : zT) (v1 : Int32) (v2 : Int32) (v3 : Int64) (v5 : Int32) (a : Int64) (hG : g_T_wordAt_5_b N kr t v1 v2 v3 v5 = some a) (hT hT_bytes : Nat) (H : Heap) (locs : List Loc) (hP : va_P (dC, dI) zcl [(hT, .inr (1, [.ref hT_bytes, .int t.2.2.1, .int t.2.2.2])), (hT_bytes, .inl (cB, t.2.1, .inl t.1))] H) (hD : va_D A [(hT, .inr (1, [.ref hT_bytes, .int t.2.2.1, .int t.2.2.2])), (hT_bytes, .inl (cB, t.2.1, .inl t.1))]) (hS : va_S A s.heap H locs) (ls : Array Slot) (hl : lv_has ls 6 [(0, .ref hT), (1, .int v1), (2, .int v2), (3, .long v3), (5, .int v5)]) : W p l e R s m args below meth c H locs 0 0 (MQ below (q_T_wordAt dC dI cB cI cL A hT hT_bytes t a) args s 0 0 A) (F0 m 5 ls []) := by
  obtain ⟨hx, hb, hr, hml, hown, hts, hlocks, hRf, hRl⟩ := id X
  unfold g_T_wordAt_5_b at hG
  refine lv_iload hx hb d_T_wordAt_5 (lv_at hl 4 rfl) ?_
  refine lv_iload_n hx hb d_T_wordAt_7 rfl (lv_at hl 1 rfl) ?_
  refine lv_iload_n hx hb d_T_wordAt_8 rfl (lv_at hl 2 rfl) ?_
  refine lv_iadd hx hb d_T_wordAt_9 ?_
  refine lv_icmp_ge (tgt := 56) hx hb d_T_wordAt_10 (by decide) (fun hc => ?_) (fun hc => ?_)
  · have hG := zt hG hc
    refine lv_lload_n hx hb d_T_wordAt_56 rfl (lv_at hl 3 rfl) ?_
    exact W.lret (v := v3) hx hb hr (fun t9 ht9 hW9 => ⟨⟨v3, (), rfl, Option.some.inj hG, by rw [ht9]; exact hP.sub [0, 1] rfl, hD.sub [0, 1] (by decide) rfl⟩, hS.F ht9⟩) hS.2.2 d_T_wordAt_57
  · have hG := zf hG hc
    refine lv_lload_n hx hb d_T_wordAt_13 rfl (lv_at hl 3 rfl) ?_
    refine lv_bipush (v := (8 : Int32)) hx hb d_T_wordAt_14 (by decide) ?_
    refine lv_lshl hx hb d_T_wordAt_16 rfl ?_
    refine lv_iload hx hb d_T_wordAt_17 (lv_at hl 4 rfl) ?_
    refine lv_if_lt (tgt := 46) hx hb d_T_wordAt_19 (by decide) (fun hc => ?_) (fun hc => ?_)
    · have hG := zt hG hc
      exact k_T_wordAt_46 kr hrec X hA zz N t v1 v2 v5 (v3 <<< ((8 : Int32).toInt64 &&& 63)) _ hG hT hT_bytes _ _ (hP.sub [0, 1] rfl) (hD.sub [0, 1] (by decide) rfl) hS _ (lv_sub hl [0, 1, 2, 4] rfl)
    · have hG := zf hG hc
      refine lv_iload hx hb d_T_wordAt_22 (lv_at hl 4 rfl) ?_
      refine lv_aload_n hx hb d_T_wordAt_24 rfl (lv_at hl 0 rfl) ?_
      refine va_get (D := (dC, dI)) (ci := 1) (v := .ref hT_bytes) (C := R_T) (T := F_T) (N := 3) hx hb hts zi_T hown zz.1 hP 0 rfl rfl 0 (by decide) (hts (.fieldLink R_T 9 "WireCodec$Tape" "bytes" "[B") (zin_135)) (fun _ h9 => h9) rfl d_T_wordAt_25 ?_
      refine va_alen (v := nI t.2.1) hx hb zz.1 hP 1 0 rfl rfl rfl d_T_wordAt_28 ?_
      refine lv_icmp_ge (tgt := 46) hx hb d_T_wordAt_29 (by decide) (fun hc => ?_) (fun hc => ?_)
      · have hG := zt hG hc
        exact k_T_wordAt_46 kr hrec X hA zz N t v1 v2 v5 (v3 <<< ((8 : Int32).toInt64 &&& 63)) _ hG hT hT_bytes _ _ (hP.sub [0, 1] rfl) (hD.sub [0, 1] (by decide) rfl) hS _ (lv_sub hl [0, 1, 2, 4] rfl)
      · have hG := zf hG hc
        refine lv_aload_n hx hb d_T_wordAt_32 rfl (lv_at hl 0 rfl) ?_
        refine va_get (D := (dC, dI)) (ci := 1) (v := .ref hT_bytes) (C := R_T) (T := F_T) (N := 3) hx hb hts zi_T hown zz.1 hP 0 rfl rfl 0 (by decide) (hts (.fieldLink R_T 9 "WireCodec$Tape" "bytes" "[B") (zin_135)) (fun _ h9 => h9) rfl d_T_wordAt_33 ?_
        refine lv_iload hx hb d_T_wordAt_36 (lv_at hl 4 rfl) ?_
        obtain ⟨hin, hG⟩ := zgd hG
        refine va_bald hx hb zz.1 hP 1 0 rfl rfl hin d_T_wordAt_38 ?_
        refine lv_sipush (v := (255 : Int32)) hx hb d_T_wordAt_39 (by decide) ?_
        refine lv_iand hx hb d_T_wordAt_42 ?_
        refine lv_goto (tgt := 47) hx hb d_T_wordAt_43 (by decide) ?_
        exact k_T_wordAt_47 kr hrec X hA zz N t v1 v2 v5 ((t.1 v5.toNatClampNeg) &&& (255 : Int32)) (v3 <<< ((8 : Int32).toInt64 &&& 63)) _ hG hT hT_bytes _ _ (hP.sub [0, 1] rfl) (hD.sub [0, 1] (by decide) rfl) hS _ (lv_sub hl [0, 1, 2, 4] rfl)
theorem k_T_wordAt_5 {p : Program} {l : Launch} {e : Env} {R : Room} {s : State} {m : MethodId} {args : Array Value} {below : List Frame} {meth : Method} {c : Code} {dC : Nat → ClassId} {dI : Nat → Nat → Nat} {cB cI cL : ClassId} {A : Nat → Prop} (X : zx p s m args meth c R R_T b_T_wordAt (some .long) 6 0 0) (hA : ∀ q, s.heap.size ≤ q → A q) (zz : zk dC dI cB cI cL A s)  (N : Nat) : ∀ (k : Nat) (t : zT) (v1 : Int32) (v2 : Int32) (v3 : Int64) (v5 : Int32) (a : Int64) (hG : g_T_wordAt_5 N k t v1 v2 v3 v5 = some a) (hT hT_bytes : Nat) (H : Heap) (locs : List Loc) (hP : va_P (dC, dI) zcl [(hT, .inr (1, [.ref hT_bytes, .int t.2.2.1, .int t.2.2.2])), (hT_bytes, .inl (cB, t.2.1, .inl t.1))] H) (hD : va_D A [(hT, .inr (1, [.ref hT_bytes, .int t.2.2.1, .int t.2.2.2])), (hT_bytes, .inl (cB, t.2.1, .inl t.1))]) (hS : va_S A s.heap H locs) (ls : Array Slot) (hl : lv_has ls 6 [(0, .ref hT), (1, .int v1), (2, .int v2), (3, .long v3), (5, .int v5)]), W p l e R s m args below meth c H locs 0 0 (MQ below (q_T_wordAt dC dI cB cI cL A hT hT_bytes t a) args s 0 0 A) (F0 m 5 ls []) := by
  intro k
  induction k with
  | zero => intro t v1 v2 v3 v5 a hG; exact absurd hG (by unfold g_T_wordAt_5; simp)
  | succ k ih => intro t v1 v2 v3 v5 a hG hT hT_bytes H locs hP hD hS ls hl; exact k_T_wordAt_5_b _ ih X hA zz N t v1 v2 v3 v5 a hG hT hT_bytes H locs hP hD hS ls hl
set_option maxRecDepth 100000 in
set_option maxHeartbeats 4000000 in
theorem k_T_wordAt_0 {p : Program} {l : Launch} {e : Env} {R : Room} {s : State} {m : MethodId} {args : Array Value} {below : List Frame} {meth : Method} {c : Code} {dC : Nat → ClassId} {dI : Nat → Nat → Nat} {cB cI cL : ClassId} {A : Nat → Prop} (X : zx p s m args meth c R R_T b_T_wordAt (some .long) 6 0 0) (hA : ∀ q, s.heap.size ≤ q → A q) (zz : zk dC dI cB cI cL A s)  (N : Nat) (t : zT) (v1 : Int32) (v2 : Int32) (a : Int64) (hG : g_T_wordAt N t v1 v2 = some a) (hT hT_bytes : Nat) (H : Heap) (locs : List Loc) (hP : va_P (dC, dI) zcl [(hT, .inr (1, [.ref hT_bytes, .int t.2.2.1, .int t.2.2.2])), (hT_bytes, .inl (cB, t.2.1, .inl t.1))] H) (hD : va_D A [(hT, .inr (1, [.ref hT_bytes, .int t.2.2.1, .int t.2.2.2])), (hT_bytes, .inl (cB, t.2.1, .inl t.1))]) (hS : va_S A s.heap H locs) (ls : Array Slot) (hl : lv_has ls 6 [(0, .ref hT), (1, .int v1), (2, .int v2)]) : W p l e R s m args below meth c H locs 0 0 (MQ below (q_T_wordAt dC dI cB cI cL A hT hT_bytes t a) args s 0 0 A) (F0 m 0 ls []) := by
  obtain ⟨hx, hb, hr, hml, hown, hts, hlocks, hRf, hRl⟩ := id X
  unfold g_T_wordAt at hG
  refine lv_lconst (v := (0 : Int64)) hx hb d_T_wordAt_0 (by decide) ?_
  refine lv_lstore_n (lv' := [(3, .long (0 : Int64)), (0, .ref hT), (1, .int v1), (2, .int v2)]) hx hb d_T_wordAt_1 rfl hl (by decide) rfl (fun ls hl => ?_)
  refine lv_iload_n hx hb d_T_wordAt_2 rfl (lv_at hl 2 rfl) ?_
  refine lv_istore (lv' := [(5, .int v1), (3, .long (0 : Int64)), (0, .ref hT), (1, .int v1), (2, .int v2)]) hx hb d_T_wordAt_3 hl (by decide) rfl (fun ls hl => ?_)
  exact k_T_wordAt_5 X hA zz N N t v1 v2 (0 : Int64) v1 _ hG hT hT_bytes _ _ (hP.sub [0, 1] rfl) (hD.sub [0, 1] (by decide) rfl) hS _ (lv_sub hl [2, 3, 4, 1, 0] rfl)
set_option maxRecDepth 100000 in
set_option maxHeartbeats 4000000 in
theorem c_T_wordAt (l : Launch) (dC : Nat → ClassId) (dI : Nat → Nat → Nat) (cB cI cL : ClassId) (sz : Nat) (hT hT_bytes : Nat) (N : Nat) (t : zT) (v1 : Int32) (v2 : Int32) (a : Int64) (hG : g_T_wordAt N t v1 v2 = some a) : Met l y_T_wordAt (zw y_T_wordAt b_T_wordAt 6 (some .long)) ({ frames := 0, cells := 0, slots := 0, locals := 0 }) (va_Pc [.ref hT, .int v1, .int v2] (zpre dC dI cB cI cL sz [(hT, .inr (1, [.ref hT_bytes, .int t.2.2.1, .int t.2.2.2])), (hT_bytes, .inl (cB, t.2.1, .inl t.1))])) (q_T_wordAt dC dI cB cI cL (va_A [(hT, .inr (1, [.ref hT_bytes, .int t.2.2.1, .int t.2.2.2])), (hT_bytes, .inl (cB, t.2.1, .inl t.1))] sz) hT hT_bytes t a) 0 0 (va_A [(hT, .inr (1, [.ref hT_bytes, .int t.2.2.1, .int t.2.2.2])), (hT_bytes, .inl (cB, t.2.1, .inl t.1))] sz) := by
  refine Met.ofW (cc := b_T_wordAt) (maxL := 6) (ret := (some .long)) (by decide) rfl ?_
  intro p e s m args below meth c s₁ B hml hv
  obtain ⟨rfl, hsz, hP, zz, hD0⟩ := hv
  subst hsz
  have X := zx_of (F := 0) (L := 0) B hml (Nat.le_refl _) (Nat.le_refl _)
  have hD := hD0.self (sz := s.heap.size)
  have hA : ∀ q : Nat, s.heap.size ≤ q → va_A [(hT, .inr (1, [.ref hT_bytes, .int t.2.2.1, .int t.2.2.2])), (hT_bytes, .inl (cB, t.2.1, .inl t.1))] s.heap.size q := fun q h => Or.inr h
  have hl := lv_entry ([.ref hT, .int v1, .int v2]) (n := 6) (Nat.le_of_ble_eq_true rfl)
  rw [lg_entry_eq]
  generalize (lg_sl ([.ref hT, .int v1, .int v2]) ++ List.replicate (6 - (lg_sl ([.ref hT, .int v1, .int v2])).length) Slot.unset).toArray = ls at hl ⊢
  exact k_T_wordAt_0 X hA zz N t v1 v2 a hG hT hT_bytes _ _ hP hD va_S.rf ls hl

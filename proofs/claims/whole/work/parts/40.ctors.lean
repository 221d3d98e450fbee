theorem zy_D_init : zy y_D_init b_D_init 1 none 0 := ⟨zmem 220 (by decide +kernel) (by decide +kernel), zmem 68 (by decide +kernel) (by decide +kernel), by decide +kernel⟩
theorem zv_D_init : Cond.instanceMethod y_D_init ∈ ztb := zmem 219 (by decide +kernel) (by decide +kernel)
theorem d_D_init_0 : decode b_D_init 0 = .ok (.aload_n 0, 1) := by decide +kernel
theorem d_D_init_1 : decode b_D_init 1 = .ok (.invokespecial 3, 3) := by decide +kernel
theorem d_D_init_4 : decode b_D_init 4 = .ok (.aload_n 0, 1) := by decide +kernel
theorem d_D_init_5 : decode b_D_init 5 = .ok (.bipush 12, 2) := by decide +kernel
theorem d_D_init_7 : decode b_D_init 7 = .ok (.newarray .long, 2) := by decide +kernel
theorem d_D_init_9 : decode b_D_init 9 = .ok (.putfield 9, 3) := by decide +kernel
theorem d_D_init_12 : decode b_D_init 12 = .ok (.aload_n 0, 1) := by decide +kernel
theorem d_D_init_13 : decode b_D_init 13 = .ok (.sipush 2000, 3) := by decide +kernel
theorem d_D_init_16 : decode b_D_init 16 = .ok (.newarray .byte, 2) := by decide +kernel
theorem d_D_init_18 : decode b_D_init 18 = .ok (.putfield 15, 3) := by decide +kernel
theorem d_D_init_21 : decode b_D_init 21 = .ok (.aload_n 0, 1) := by decide +kernel
theorem d_D_init_22 : decode b_D_init 22 = .ok (.sipush 500, 3) := by decide +kernel
theorem d_D_init_25 : decode b_D_init 25 = .ok (.newarray .long, 2) := by decide +kernel
theorem d_D_init_27 : decode b_D_init 27 = .ok (.putfield 19, 3) := by decide +kernel
theorem d_D_init_30 : decode b_D_init 30 = .ok (.aload_n 0, 1) := by decide +kernel
theorem d_D_init_31 : decode b_D_init 31 = .ok (.sipush 500, 3) := by decide +kernel
theorem d_D_init_34 : decode b_D_init 34 = .ok (.newarray .long, 2) := by decide +kernel
theorem d_D_init_36 : decode b_D_init 36 = .ok (.putfield 22, 3) := by decide +kernel
theorem d_D_init_39 : decode b_D_init 39 = .ok (.return_, 1) := by decide +kernel
theorem zy_F_init : zy y_F_init b_F_init 1 none 0 := ⟨zmem 173 (by decide +kernel) (by decide +kernel), zmem 66 (by decide +kernel) (by decide +kernel), by decide +kernel⟩
theorem zv_F_init : Cond.instanceMethod y_F_init ∈ ztb := zmem 172 (by decide +kernel) (by decide +kernel)
theorem d_F_init_0 : decode b_F_init 0 = .ok (.aload_n 0, 1) := by decide +kernel
theorem d_F_init_1 : decode b_F_init 1 = .ok (.invokespecial 3, 3) := by decide +kernel
theorem d_F_init_4 : decode b_F_init 4 = .ok (.aload_n 0, 1) := by decide +kernel
theorem d_F_init_5 : decode b_F_init 5 = .ok (.bipush 12, 2) := by decide +kernel
theorem d_F_init_7 : decode b_F_init 7 = .ok (.newarray .long, 2) := by decide +kernel
theorem d_F_init_9 : decode b_F_init 9 = .ok (.putfield 9, 3) := by decide +kernel
theorem d_F_init_12 : decode b_F_init 12 = .ok (.return_, 1) := by decide +kernel
theorem zy_H_init : zy y_H_init b_H_init 1 none 0 := ⟨zmem 209 (by decide +kernel) (by decide +kernel), zmem 67 (by decide +kernel) (by decide +kernel), by decide +kernel⟩
theorem zv_H_init : Cond.instanceMethod y_H_init ∈ ztb := zmem 208 (by decide +kernel) (by decide +kernel)
theorem d_H_init_0 : decode b_H_init 0 = .ok (.aload_n 0, 1) := by decide +kernel
theorem d_H_init_1 : decode b_H_init 1 = .ok (.invokespecial 3, 3) := by decide +kernel
theorem d_H_init_4 : decode b_H_init 4 = .ok (.aload_n 0, 1) := by decide +kernel
theorem d_H_init_5 : decode b_H_init 5 = .ok (.bipush 12, 2) := by decide +kernel
theorem d_H_init_7 : decode b_H_init 7 = .ok (.newarray .int, 2) := by decide +kernel
theorem d_H_init_9 : decode b_H_init 9 = .ok (.putfield 9, 3) := by decide +kernel
theorem d_H_init_12 : decode b_H_init 12 = .ok (.return_, 1) := by decide +kernel
theorem zy_R_init : zy y_R_init b_R_init 2 none 1 := ⟨zmem 111 (by decide +kernel) (by decide +kernel), zmem 64 (by decide +kernel) (by decide +kernel), by decide +kernel⟩
theorem zv_R_init : Cond.instanceMethod y_R_init ∈ ztb := zmem 110 (by decide +kernel) (by decide +kernel)
theorem d_R_init_0 : decode b_R_init 0 = .ok (.aload_n 0, 1) := by decide +kernel
theorem d_R_init_1 : decode b_R_init 1 = .ok (.invokespecial 1, 3) := by decide +kernel
theorem d_R_init_4 : decode b_R_init 4 = .ok (.aload_n 0, 1) := by decide +kernel
theorem d_R_init_5 : decode b_R_init 5 = .ok (.aload_n 1, 1) := by decide +kernel
theorem d_R_init_6 : decode b_R_init 6 = .ok (.putfield 7, 3) := by decide +kernel
theorem d_R_init_9 : decode b_R_init 9 = .ok (.return_, 1) := by decide +kernel
theorem zy_G_init : zy y_G_init b_G_init 1 none 0 := ⟨zmem 138 (by decide +kernel) (by decide +kernel), zmem 65 (by decide +kernel) (by decide +kernel), by decide +kernel⟩
theorem zv_G_init : Cond.instanceMethod y_G_init ∈ ztb := zmem 137 (by decide +kernel) (by decide +kernel)
theorem d_G_init_0 : decode b_G_init 0 = .ok (.aload_n 0, 1) := by decide +kernel
theorem d_G_init_1 : decode b_G_init 1 = .ok (.invokespecial 3, 3) := by decide +kernel
theorem d_G_init_4 : decode b_G_init 4 = .ok (.aload_n 0, 1) := by decide +kernel
theorem d_G_init_5 : decode b_G_init 5 = .ok (.sipush 512, 3) := by decide +kernel
theorem d_G_init_8 : decode b_G_init 8 = .ok (.newarray .int, 2) := by decide +kernel
theorem d_G_init_10 : decode b_G_init 10 = .ok (.putfield 9, 3) := by decide +kernel
theorem d_G_init_13 : decode b_G_init 13 = .ok (.aload_n 0, 1) := by decide +kernel
theorem d_G_init_14 : decode b_G_init 14 = .ok (.iconst (-1), 1) := by decide +kernel
theorem d_G_init_15 : decode b_G_init 15 = .ok (.putfield 15, 3) := by decide +kernel
theorem d_G_init_18 : decode b_G_init 18 = .ok (.return_, 1) := by decide +kernel
theorem zy_T_init : zy y_T_init b_T_init 1 none 0 := ⟨zmem 93 (by decide +kernel) (by decide +kernel), zmem 63 (by decide +kernel) (by decide +kernel), by decide +kernel⟩
theorem zv_T_init : Cond.instanceMethod y_T_init ∈ ztb := zmem 92 (by decide +kernel) (by decide +kernel)
theorem d_T_init_0 : decode b_T_init 0 = .ok (.aload_n 0, 1) := by decide +kernel
theorem d_T_init_1 : decode b_T_init 1 = .ok (.invokespecial 3, 3) := by decide +kernel
theorem d_T_init_4 : decode b_T_init 4 = .ok (.aload_n 0, 1) := by decide +kernel
theorem d_T_init_5 : decode b_T_init 5 = .ok (.sipush 1024, 3) := by decide +kernel
theorem d_T_init_8 : decode b_T_init 8 = .ok (.newarray .byte, 2) := by decide +kernel
theorem d_T_init_10 : decode b_T_init 10 = .ok (.putfield 9, 3) := by decide +kernel
theorem d_T_init_13 : decode b_T_init 13 = .ok (.return_, 1) := by decide +kernel
theorem zy_M_init : zy y_M_init b_M_init 1 none 0 := ⟨zmem 918 (by decide +kernel) (by decide +kernel), zmem 73 (by decide +kernel) (by decide +kernel), by decide +kernel⟩
theorem zv_M_init : Cond.instanceMethod y_M_init ∈ ztb := zmem 917 (by decide +kernel) (by decide +kernel)
theorem d_M_init_0 : decode b_M_init 0 = .ok (.aload_n 0, 1) := by decide +kernel
theorem d_M_init_1 : decode b_M_init 1 = .ok (.invokespecial 1, 3) := by decide +kernel
theorem d_M_init_4 : decode b_M_init 4 = .ok (.aload_n 0, 1) := by decide +kernel
theorem d_M_init_5 : decode b_M_init 5 = .ok (.ldc 7, 2) := by decide +kernel
theorem d_M_init_7 : decode b_M_init 7 = .ok (.newarray .byte, 2) := by decide +kernel
theorem d_M_init_9 : decode b_M_init 9 = .ok (.putfield 8, 3) := by decide +kernel
theorem d_M_init_12 : decode b_M_init 12 = .ok (.aload_n 0, 1) := by decide +kernel
theorem d_M_init_13 : decode b_M_init 13 = .ok (.iconst (-1), 1) := by decide +kernel
theorem d_M_init_14 : decode b_M_init 14 = .ok (.putfield 14, 3) := by decide +kernel
theorem d_M_init_17 : decode b_M_init 17 = .ok (.aload_n 0, 1) := by decide +kernel
theorem d_M_init_18 : decode b_M_init 18 = .ok (.ldc 7, 2) := by decide +kernel
theorem d_M_init_20 : decode b_M_init 20 = .ok (.newarray .int, 2) := by decide +kernel
theorem d_M_init_22 : decode b_M_init 22 = .ok (.putfield 18, 3) := by decide +kernel
theorem d_M_init_25 : decode b_M_init 25 = .ok (.aload_n 0, 1) := by decide +kernel
theorem d_M_init_26 : decode b_M_init 26 = .ok (.bipush 12, 2) := by decide +kernel
theorem d_M_init_28 : decode b_M_init 28 = .ok (.newarray .long, 2) := by decide +kernel
theorem d_M_init_30 : decode b_M_init 30 = .ok (.putfield 22, 3) := by decide +kernel
theorem d_M_init_33 : decode b_M_init 33 = .ok (.aload_n 0, 1) := by decide +kernel
theorem d_M_init_34 : decode b_M_init 34 = .ok (.bipush 12, 2) := by decide +kernel
theorem d_M_init_36 : decode b_M_init 36 = .ok (.newarray .long, 2) := by decide +kernel
theorem d_M_init_38 : decode b_M_init 38 = .ok (.putfield 26, 3) := by decide +kernel
theorem d_M_init_41 : decode b_M_init 41 = .ok (.aload_n 0, 1) := by decide +kernel
theorem d_M_init_42 : decode b_M_init 42 = .ok (.sipush 2000, 3) := by decide +kernel
theorem d_M_init_45 : decode b_M_init 45 = .ok (.newarray .byte, 2) := by decide +kernel
theorem d_M_init_47 : decode b_M_init 47 = .ok (.putfield 29, 3) := by decide +kernel
theorem d_M_init_50 : decode b_M_init 50 = .ok (.aload_n 0, 1) := by decide +kernel
theorem d_M_init_51 : decode b_M_init 51 = .ok (.sipush 500, 3) := by decide +kernel
theorem d_M_init_54 : decode b_M_init 54 = .ok (.newarray .long, 2) := by decide +kernel
theorem d_M_init_56 : decode b_M_init 56 = .ok (.putfield 32, 3) := by decide +kernel
theorem d_M_init_59 : decode b_M_init 59 = .ok (.aload_n 0, 1) := by decide +kernel
theorem d_M_init_60 : decode b_M_init 60 = .ok (.sipush 500, 3) := by decide +kernel
theorem d_M_init_63 : decode b_M_init 63 = .ok (.newarray .long, 2) := by decide +kernel
theorem d_M_init_65 : decode b_M_init 65 = .ok (.putfield 35, 3) := by decide +kernel
theorem d_M_init_68 : decode b_M_init 68 = .ok (.aload_n 0, 1) := by decide +kernel
theorem d_M_init_69 : decode b_M_init 69 = .ok (.ldc 38, 2) := by decide +kernel
theorem d_M_init_71 : decode b_M_init 71 = .ok (.newarray .int, 2) := by decide +kernel
theorem d_M_init_73 : decode b_M_init 73 = .ok (.putfield 39, 3) := by decide +kernel
theorem d_M_init_76 : decode b_M_init 76 = .ok (.aload_n 0, 1) := by decide +kernel
theorem d_M_init_77 : decode b_M_init 77 = .ok (.bipush 17, 2) := by decide +kernel
theorem d_M_init_79 : decode b_M_init 79 = .ok (.newarray .long, 2) := by decide +kernel
theorem d_M_init_81 : decode b_M_init 81 = .ok (.putfield 42, 3) := by decide +kernel
theorem d_M_init_84 : decode b_M_init 84 = .ok (.aload_n 0, 1) := by decide +kernel
theorem d_M_init_85 : decode b_M_init 85 = .ok (.invokevirtual 45, 3) := by decide +kernel
theorem d_M_init_88 : decode b_M_init 88 = .ok (.return_, 1) := by decide +kernel
theorem zin_D_3 : Cond.methodLink R_D 3 objectInit ∈ ztb := zmem 221 (by decide +kernel) (by decide +kernel)
theorem zin_F_3 : Cond.methodLink R_F 3 objectInit ∈ ztb := zmem 174 (by decide +kernel) (by decide +kernel)
theorem zin_H_3 : Cond.methodLink R_H 3 objectInit ∈ ztb := zmem 210 (by decide +kernel) (by decide +kernel)
theorem zin_R_1 : Cond.methodLink R_R 1 objectInit ∈ ztb := zmem 112 (by decide +kernel) (by decide +kernel)
theorem zin_G_3 : Cond.methodLink R_G 3 objectInit ∈ ztb := zmem 139 (by decide +kernel) (by decide +kernel)
theorem zin_T_3 : Cond.methodLink R_T 3 objectInit ∈ ztb := zmem 94 (by decide +kernel) (by decide +kernel)
theorem zin_M_1 : Cond.methodLink R_M 1 objectInit ∈ ztb := zmem 919 (by decide +kernel) (by decide +kernel)
theorem zin_M_38 : Cond.constant R_M 38 (49152 : Int32) ∈ ztb := zmem 921 (by decide +kernel) (by decide +kernel)
noncomputable def g_D_init  : Option (zD) := some (((fun _ => (0 : Int64)), (fun _ => (0 : Int32)), (fun _ => (0 : Int64)), (fun _ => (0 : Int64)), (0 : Int32), (0 : Int32)))
def q_D_init (dC : Nat → ClassId) (dI : Nat → Nat → Nat) (cB cI cL : ClassId) (A : Nat → Prop) (adD : Nat) (a : zD) : Array Value → State → Outcome → State → Prop := va_Qv (fun (u : zD × Nat × Nat × Nat × Nat) => (u.1) = a) (fun u U => va_P (dC, dI) zcl (zwD adD u.2.1 u.2.2.1 u.2.2.2.1 u.2.2.2.2 cB cI cL u.1) U.heap ∧ va_D A (zwD adD u.2.1 u.2.2.1 u.2.2.2.1 u.2.2.2.2 cB cI cL u.1)) A
set_option maxRecDepth 100000 in
set_option maxHeartbeats 4000000 in
theorem k_D_init_0 {p : Program} {l : Launch} {e : Env} {R : Room} {s : State} {m : MethodId} {args : Array Value} {below : List Frame} {meth : Method} {c : Code} {dC : Nat → ClassId} {dI : Nat → Nat → Nat} {cB cI cL : ClassId} {A : Nat → Prop} (X : zx p s m args meth c R R_D b_D_init none 1 1 12) (hA : ∀ q, s.heap.size ≤ q → A q) (zz : zk dC dI cB cI cL A s) (hin : meth.name = "<init>") (hRc : 4 ≤ R.cells) (hRz : 3012 ≤ R.slots)  (a : zD) (hG : g_D_init  = some a) (adD : Nat) (H : Heap) (locs : List Loc) (hP : va_P (dC, dI) zcl ([(adD, .inr (6, [.null, .null, .null, .null, .int (0 : Int32), .int (0 : Int32)]))]) H) (hD : va_D A ([(adD, .inr (6, [.null, .null, .null, .null, .int (0 : Int32), .int (0 : Int32)]))])) (hS : va_S A s.heap H locs) (ls : Array Slot) (hl : lv_has ls 1 [(0, .ref adD)]) : W p l e R s m args below meth c H locs 0 0 (MQ below (q_D_init dC dI cB cI cL A adD a) args s 4 3012 A) (F0 m 0 ls []) := by
  obtain ⟨hx, hb, hr, hml, hown, hts, hlocks, hRf, hRl⟩ := id X
  unfold g_D_init at hG
  refine lv_aload_n hx hb d_D_init_0 rfl (lv_at hl 0 rfl) ?_
  refine W.objInit hx hb hown (hts (.methodLink R_D 3 objectInit) zin_D_3) (hts (.instanceMethod objectInit) zin_obj1) (hts _ zin_obj2) rfl (by rw [hml]; exact hl.1) rfl d_D_init_1 (Nat.le_trans (Nat.le_of_ble_eq_true rfl) hRf) (Nat.le_trans (Nat.le_of_ble_eq_true rfl) hRl) ?_
  refine W.eq (g2 := F0 m 4 ls []) rfl ?_
  refine lv_aload_n hx hb d_D_init_4 rfl (lv_at hl 0 rfl) ?_
  refine lv_bipush (v := (12 : Int32)) hx hb d_D_init_5 (by decide) ?_
  refine va_newa (atype := .long) (ty := .long) (N' := 12) (a0 := (12, .inr (.inl (fun _ => (0 : Int64))))) hx hb (hts (.arrayClass .long) zin_arrJ) rfl zz.1 hP hD hS hA (fun _ => rfl) (by decide) (by decide) (by decide) (Nat.le_trans (Nat.le_of_ble_eq_true rfl) hRc) (Nat.le_trans (Nat.le_of_ble_eq_true rfl) hRz) d_D_init_7 (fun q7 cA9 H hK9 hP hD hS => ?_)
  obtain rfl := zarrJ hK9
  have hP : va_P (dC, dI) zcl ([(adD, .inr (6, [.null, .null, .null, .null, .int (0 : Int32), .int (0 : Int32)])), (q7, .inl (cL, 12, .inr (.inl (fun _ => (0 : Int64)))))]) H := hP
  have hD : va_D A ([(adD, .inr (6, [.null, .null, .null, .null, .int (0 : Int32), .int (0 : Int32)])), (q7, .inl (cL, 12, .inr (.inl (fun _ => (0 : Int64)))))]) := hD
  refine W.widen (k := 1) (n := 12) (by decide) (by decide) ?_
  refine va_putF (D := (dC, dI)) (ci := 6) (v := .ref q7) (ty := (.array .long)) (C := R_D) (T := F_D) (N := 6) hx hb hts zi_D zty_D zty_D_ok znm_D hown zz.1 hP hD hS 0 rfl rfl 0 (by decide) (hts (.fieldLink R_D 9 "WireCodec$Draft" "parts" "[J") zin_D_9) (fun _ h9 => h9) rfl hin rfl (by decide +kernel) rfl rfl (Nat.le_of_ble_eq_true rfl) d_D_init_9 (fun H locs hP hD hS => ?_)
  have hP : va_P (dC, dI) zcl ([(adD, .inr (6, [.ref q7, .null, .null, .null, .int (0 : Int32), .int (0 : Int32)])), (q7, .inl (cL, 12, .inr (.inl (fun _ => (0 : Int64)))))]) H := hP
  have hD : va_D A ([(adD, .inr (6, [.ref q7, .null, .null, .null, .int (0 : Int32), .int (0 : Int32)])), (q7, .inl (cL, 12, .inr (.inl (fun _ => (0 : Int64)))))]) := hD
  refine lv_aload_n hx hb d_D_init_12 rfl (lv_at hl 0 rfl) ?_
  refine lv_sipush (v := (2000 : Int32)) hx hb d_D_init_13 (by decide) ?_
  refine va_newa (atype := .byte) (ty := .byte) (N' := 2000) (a0 := (2000, .inl (fun _ => (0 : Int32)))) hx hb (hts (.arrayClass .byte) zin_arrB) rfl zz.1 hP hD hS hA (fun _ => rfl) (by decide) (by decide) (by decide) (Nat.le_trans (Nat.le_of_ble_eq_true rfl) hRc) (Nat.le_trans (Nat.le_of_ble_eq_true rfl) hRz) d_D_init_16 (fun q16 cA9 H hK9 hP hD hS => ?_)
  obtain rfl := zarrB hK9
  have hP : va_P (dC, dI) zcl ([(adD, .inr (6, [.ref q7, .null, .null, .null, .int (0 : Int32), .int (0 : Int32)])), (q7, .inl (cL, 12, .inr (.inl (fun _ => (0 : Int64))))), (q16, .inl (cB, 2000, .inl (fun _ => (0 : Int32))))]) H := hP
  have hD : va_D A ([(adD, .inr (6, [.ref q7, .null, .null, .null, .int (0 : Int32), .int (0 : Int32)])), (q7, .inl (cL, 12, .inr (.inl (fun _ => (0 : Int64))))), (q16, .inl (cB, 2000, .inl (fun _ => (0 : Int32))))]) := hD
  refine W.widen (k := 2) (n := 2012) (by decide) (by decide) ?_
  refine va_putF (D := (dC, dI)) (ci := 6) (v := .ref q16) (ty := (.array .byte)) (C := R_D) (T := F_D) (N := 6) hx hb hts zi_D zty_D zty_D_ok znm_D hown zz.1 hP hD hS 0 rfl rfl 1 (by decide) (hts (.fieldLink R_D 15 "WireCodec$Draft" "bytes" "[B") zin_D_15) (fun _ h9 => h9) rfl hin rfl (by decide +kernel) rfl rfl (Nat.le_of_ble_eq_true rfl) d_D_init_18 (fun H locs hP hD hS => ?_)
  have hP : va_P (dC, dI) zcl ([(adD, .inr (6, [.ref q7, .ref q16, .null, .null, .int (0 : Int32), .int (0 : Int32)])), (q7, .inl (cL, 12, .inr (.inl (fun _ => (0 : Int64))))), (q16, .inl (cB, 2000, .inl (fun _ => (0 : Int32))))]) H := hP
  have hD : va_D A ([(adD, .inr (6, [.ref q7, .ref q16, .null, .null, .int (0 : Int32), .int (0 : Int32)])), (q7, .inl (cL, 12, .inr (.inl (fun _ => (0 : Int64))))), (q16, .inl (cB, 2000, .inl (fun _ => (0 : Int32))))]) := hD
  refine lv_aload_n hx hb d_D_init_21 rfl (lv_at hl 0 rfl) ?_
  refine lv_sipush (v := (500 : Int32)) hx hb d_D_init_22 (by decide) ?_
  refine va_newa (atype := .long) (ty := .long) (N' := 500) (a0 := (500, .inr (.inl (fun _ => (0 : Int64))))) hx hb (hts (.arrayClass .long) zin_arrJ) rfl zz.1 hP hD hS hA (fun _ => rfl) (by decide) (by decide) (by decide) (Nat.le_trans (Nat.le_of_ble_eq_true rfl) hRc) (Nat.le_trans (Nat.le_of_ble_eq_true rfl) hRz) d_D_init_25 (fun q25 cA9 H hK9 hP hD hS => ?_)
  obtain rfl := zarrJ hK9
  have hP : va_P (dC, dI) zcl ([(adD, .inr (6, [.ref q7, .ref q16, .null, .null, .int (0 : Int32), .int (0 : Int32)])), (q7, .inl (cL, 12, .inr (.inl (fun _ => (0 : Int64))))), (q16, .inl (cB, 2000, .inl (fun _ => (0 : Int32)))), (q25, .inl (cL, 500, .inr (.inl (fun _ => (0 : Int64)))))]) H := hP
  have hD : va_D A ([(adD, .inr (6, [.ref q7, .ref q16, .null, .null, .int (0 : Int32), .int (0 : Int32)])), (q7, .inl (cL, 12, .inr (.inl (fun _ => (0 : Int64))))), (q16, .inl (cB, 2000, .inl (fun _ => (0 : Int32)))), (q25, .inl (cL, 500, .inr (.inl (fun _ => (0 : Int64)))))]) := hD
  refine W.widen (k := 3) (n := 2512) (by decide) (by decide) ?_
  refine va_putF (D := (dC, dI)) (ci := 6) (v := .ref q25) (ty := (.array .long)) (C := R_D) (T := F_D) (N := 6) hx hb hts zi_D zty_D zty_D_ok znm_D hown zz.1 hP hD hS 0 rfl rfl 2 (by decide) (hts (.fieldLink R_D 19 "WireCodec$Draft" "lows" "[J") zin_D_19) (fun _ h9 => h9) rfl hin rfl (by decide +kernel) rfl rfl (Nat.le_of_ble_eq_true rfl) d_D_init_27 (fun H locs hP hD hS => ?_)
  have hP : va_P (dC, dI) zcl ([(adD, .inr (6, [.ref q7, .ref q16, .ref q25, .null, .int (0 : Int32), .int (0 : Int32)])), (q7, .inl (cL, 12, .inr (.inl (fun _ => (0 : Int64))))), (q16, .inl (cB, 2000, .inl (fun _ => (0 : Int32)))), (q25, .inl (cL, 500, .inr (.inl (fun _ => (0 : Int64)))))]) H := hP
  have hD : va_D A ([(adD, .inr (6, [.ref q7, .ref q16, .ref q25, .null, .int (0 : Int32), .int (0 : Int32)])), (q7, .inl (cL, 12, .inr (.inl (fun _ => (0 : Int64))))), (q16, .inl (cB, 2000, .inl (fun _ => (0 : Int32)))), (q25, .inl (cL, 500, .inr (.inl (fun _ => (0 : Int64)))))]) := hD
  refine lv_aload_n hx hb d_D_init_30 rfl (lv_at hl 0 rfl) ?_
  refine lv_sipush (v := (500 : Int32)) hx hb d_D_init_31 (by decide) ?_
  refine va_newa (atype := .long) (ty := .long) (N' := 500) (a0 := (500, .inr (.inl (fun _ => (0 : Int64))))) hx hb (hts (.arrayClass .long) zin_arrJ) rfl zz.1 hP hD hS hA (fun _ => rfl) (by decide) (by decide) (by decide) (Nat.le_trans (Nat.le_of_ble_eq_true rfl) hRc) (Nat.le_trans (Nat.le_of_ble_eq_true rfl) hRz) d_D_init_34 (fun q34 cA9 H hK9 hP hD hS => ?_)
  obtain rfl := zarrJ hK9
  have hP : va_P (dC, dI) zcl ([(adD, .inr (6, [.ref q7, .ref q16, .ref q25, .null, .int (0 : Int32), .int (0 : Int32)])), (q7, .inl (cL, 12, .inr (.inl (fun _ => (0 : Int64))))), (q16, .inl (cB, 2000, .inl (fun _ => (0 : Int32)))), (q25, .inl (cL, 500, .inr (.inl (fun _ => (0 : Int64))))), (q34, .inl (cL, 500, .inr (.inl (fun _ => (0 : Int64)))))]) H := hP
  have hD : va_D A ([(adD, .inr (6, [.ref q7, .ref q16, .ref q25, .null, .int (0 : Int32), .int (0 : Int32)])), (q7, .inl (cL, 12, .inr (.inl (fun _ => (0 : Int64))))), (q16, .inl (cB, 2000, .inl (fun _ => (0 : Int32)))), (q25, .inl (cL, 500, .inr (.inl (fun _ => (0 : Int64))))), (q34, .inl (cL, 500, .inr (.inl (fun _ => (0 : Int64)))))]) := hD
  refine W.widen (k := 4) (n := 3012) (by decide) (by decide) ?_
  refine va_putF (D := (dC, dI)) (ci := 6) (v := .ref q34) (ty := (.array .long)) (C := R_D) (T := F_D) (N := 6) hx hb hts zi_D zty_D zty_D_ok znm_D hown zz.1 hP hD hS 0 rfl rfl 3 (by decide) (hts (.fieldLink R_D 22 "WireCodec$Draft" "highs" "[J") zin_D_22) (fun _ h9 => h9) rfl hin rfl (by decide +kernel) rfl rfl (Nat.le_of_ble_eq_true rfl) d_D_init_36 (fun H locs hP hD hS => ?_)
  have hP : va_P (dC, dI) zcl ([(adD, .inr (6, [.ref q7, .ref q16, .ref q25, .ref q34, .int (0 : Int32), .int (0 : Int32)])), (q7, .inl (cL, 12, .inr (.inl (fun _ => (0 : Int64))))), (q16, .inl (cB, 2000, .inl (fun _ => (0 : Int32)))), (q25, .inl (cL, 500, .inr (.inl (fun _ => (0 : Int64))))), (q34, .inl (cL, 500, .inr (.inl (fun _ => (0 : Int64)))))]) H := hP
  have hD : va_D A ([(adD, .inr (6, [.ref q7, .ref q16, .ref q25, .ref q34, .int (0 : Int32), .int (0 : Int32)])), (q7, .inl (cL, 12, .inr (.inl (fun _ => (0 : Int64))))), (q16, .inl (cB, 2000, .inl (fun _ => (0 : Int32)))), (q25, .inl (cL, 500, .inr (.inl (fun _ => (0 : Int64))))), (q34, .inl (cL, 500, .inr (.inl (fun _ => (0 : Int64)))))]) := hD
  exact W.vret hx hb hr (fun t9 ht9 hW9 => ⟨⟨(((fun _ => (0 : Int64)), (fun _ => (0 : Int32)), (fun _ => (0 : Int64)), (fun _ => (0 : Int64)), (0 : Int32), (0 : Int32)), q7, q16, q25, q34), rfl, Option.some.inj hG, by rw [ht9]; exact hP, hD⟩, hS.F ht9⟩) hS.2.2 d_D_init_39
set_option maxRecDepth 100000 in
set_option maxHeartbeats 4000000 in
theorem c_D_init (l : Launch) (dC : Nat → ClassId) (dI : Nat → Nat → Nat) (cB cI cL : ClassId) (sz : Nat) (adD : Nat) (a : zD) (hG : g_D_init = some a) : Met l y_D_init (zw y_D_init b_D_init 1 none) ({ frames := 1, cells := 4, slots := 3012, locals := 12 }) (va_Pc [.ref adD] (zpre dC dI cB cI cL sz ([(adD, .inr (6, [.null, .null, .null, .null, .int (0 : Int32), .int (0 : Int32)]))]))) (q_D_init dC dI cB cI cL (va_A ([(adD, .inr (6, [.null, .null, .null, .null, .int (0 : Int32), .int (0 : Int32)]))]) sz) adD a) 4 3012 (va_A ([(adD, .inr (6, [.null, .null, .null, .null, .int (0 : Int32), .int (0 : Int32)]))]) sz) := by
  refine Met.ofW (cc := b_D_init) (maxL := 1) (ret := none) (by decide) rfl ?_
  intro p e s m args below meth c s₁ B hml hv
  obtain ⟨rfl, hsz, hP, zz, hD0⟩ := hv
  subst hsz
  have X := zx_of (F := 1) (L := 12) B hml (Nat.le_refl _) (Nat.le_refl _)
  have hD := hD0.self (sz := s.heap.size)
  have hA : ∀ q : Nat, s.heap.size ≤ q → va_A ([(adD, .inr (6, [.null, .null, .null, .null, .int (0 : Int32), .int (0 : Int32)]))]) s.heap.size q := fun q h => Or.inr h
  have hl := lv_entry ([.ref adD]) (n := 1) (Nat.le_of_ble_eq_true rfl)
  rw [lg_entry_eq]
  generalize (lg_sl ([.ref adD]) ++ List.replicate (1 - (lg_sl ([.ref adD])).length) Slot.unset).toArray = ls at hl ⊢
  have hin : meth.name = "<init>" := (name_of_methodNamed B.named B.method).1
  exact k_D_init_0 X hA zz hin (Nat.le_refl _) (Nat.le_refl _) a hG adD _ _ hP hD va_S.rf ls hl
noncomputable def g_F_init  : Option (zF) := some (((fun _ => (0 : Int64)), (0 : Int32), (0 : Int32), (0 : Int32), (0 : Int32), (0 : Int64), (0 : Int64)))
def q_F_init (dC : Nat → ClassId) (dI : Nat → Nat → Nat) (cB cI cL : ClassId) (A : Nat → Prop) (adF : Nat) (a : zF) : Array Value → State → Outcome → State → Prop := va_Qv (fun (u : zF × Nat) => (u.1) = a) (fun u U => va_P (dC, dI) zcl (zwF adF u.2 cB cI cL u.1) U.heap ∧ va_D A (zwF adF u.2 cB cI cL u.1)) A
set_option maxRecDepth 100000 in
set_option maxHeartbeats 4000000 in
theorem k_F_init_0 {p : Program} {l : Launch} {e : Env} {R : Room} {s : State} {m : MethodId} {args : Array Value} {below : List Frame} {meth : Method} {c : Code} {dC : Nat → ClassId} {dI : Nat → Nat → Nat} {cB cI cL : ClassId} {A : Nat → Prop} (X : zx p s m args meth c R R_F b_F_init none 1 1 12) (hA : ∀ q, s.heap.size ≤ q → A q) (zz : zk dC dI cB cI cL A s) (hin : meth.name = "<init>") (hRc : 1 ≤ R.cells) (hRz : 12 ≤ R.slots)  (a : zF) (hG : g_F_init  = some a) (adF : Nat) (H : Heap) (locs : List Loc) (hP : va_P (dC, dI) zcl ([(adF, .inr (4, [.null, .int (0 : Int32), .int (0 : Int32), .int (0 : Int32), .int (0 : Int32), .long (0 : Int64), .long (0 : Int64)]))]) H) (hD : va_D A ([(adF, .inr (4, [.null, .int (0 : Int32), .int (0 : Int32), .int (0 : Int32), .int (0 : Int32), .long (0 : Int64), .long (0 : Int64)]))])) (hS : va_S A s.heap H locs) (ls : Array Slot) (hl : lv_has ls 1 [(0, .ref adF)]) : W p l e R s m args below meth c H locs 0 0 (MQ below (q_F_init dC dI cB cI cL A adF a) args s 1 12 A) (F0 m 0 ls []) := by
  obtain ⟨hx, hb, hr, hml, hown, hts, hlocks, hRf, hRl⟩ := id X
  unfold g_F_init at hG
  refine lv_aload_n hx hb d_F_init_0 rfl (lv_at hl 0 rfl) ?_
  refine W.objInit hx hb hown (hts (.methodLink R_F 3 objectInit) zin_F_3) (hts (.instanceMethod objectInit) zin_obj1) (hts _ zin_obj2) rfl (by rw [hml]; exact hl.1) rfl d_F_init_1 (Nat.le_trans (Nat.le_of_ble_eq_true rfl) hRf) (Nat.le_trans (Nat.le_of_ble_eq_true rfl) hRl) ?_
  refine W.eq (g2 := F0 m 4 ls []) rfl ?_
  refine lv_aload_n hx hb d_F_init_4 rfl (lv_at hl 0 rfl) ?_
  refine lv_bipush (v := (12 : Int32)) hx hb d_F_init_5 (by decide) ?_
  refine va_newa (atype := .long) (ty := .long) (N' := 12) (a0 := (12, .inr (.inl (fun _ => (0 : Int64))))) hx hb (hts (.arrayClass .long) zin_arrJ) rfl zz.1 hP hD hS hA (fun _ => rfl) (by decide) (by decide) (by decide) (Nat.le_trans (Nat.le_of_ble_eq_true rfl) hRc) (Nat.le_trans (Nat.le_of_ble_eq_true rfl) hRz) d_F_init_7 (fun q7 cA9 H hK9 hP hD hS => ?_)
  obtain rfl := zarrJ hK9
  have hP : va_P (dC, dI) zcl ([(adF, .inr (4, [.null, .int (0 : Int32), .int (0 : Int32), .int (0 : Int32), .int (0 : Int32), .long (0 : Int64), .long (0 : Int64)])), (q7, .inl (cL, 12, .inr (.inl (fun _ => (0 : Int64)))))]) H := hP
  have hD : va_D A ([(adF, .inr (4, [.null, .int (0 : Int32), .int (0 : Int32), .int (0 : Int32), .int (0 : Int32), .long (0 : Int64), .long (0 : Int64)])), (q7, .inl (cL, 12, .inr (.inl (fun _ => (0 : Int64)))))]) := hD
  refine W.widen (k := 1) (n := 12) (by decide) (by decide) ?_
  refine va_putF (D := (dC, dI)) (ci := 4) (v := .ref q7) (ty := (.array .long)) (C := R_F) (T := F_F) (N := 7) hx hb hts zi_F zty_F zty_F_ok znm_F hown zz.1 hP hD hS 0 rfl rfl 0 (by decide) (hts (.fieldLink R_F 9 "WireCodec$Frame" "parts" "[J") zin_F_9) (fun _ h9 => h9) rfl hin rfl (by decide +kernel) rfl rfl (Nat.le_of_ble_eq_true rfl) d_F_init_9 (fun H locs hP hD hS => ?_)
  have hP : va_P (dC, dI) zcl ([(adF, .inr (4, [.ref q7, .int (0 : Int32), .int (0 : Int32), .int (0 : Int32), .int (0 : Int32), .long (0 : Int64), .long (0 : Int64)])), (q7, .inl (cL, 12, .inr (.inl (fun _ => (0 : Int64)))))]) H := hP
  have hD : va_D A ([(adF, .inr (4, [.ref q7, .int (0 : Int32), .int (0 : Int32), .int (0 : Int32), .int (0 : Int32), .long (0 : Int64), .long (0 : Int64)])), (q7, .inl (cL, 12, .inr (.inl (fun _ => (0 : Int64)))))]) := hD
  exact W.vret hx hb hr (fun t9 ht9 hW9 => ⟨⟨(((fun _ => (0 : Int64)), (0 : Int32), (0 : Int32), (0 : Int32), (0 : Int32), (0 : Int64), (0 : Int64)), q7), rfl, Option.some.inj hG, by rw [ht9]; exact hP, hD⟩, hS.F ht9⟩) hS.2.2 d_F_init_12
set_option maxRecDepth 100000 in
set_option maxHeartbeats 4000000 in
theorem c_F_init (l : Launch) (dC : Nat → ClassId) (dI : Nat → Nat → Nat) (cB cI cL : ClassId) (sz : Nat) (adF : Nat) (a : zF) (hG : g_F_init = some a) : Met l y_F_init (zw y_F_init b_F_init 1 none) ({ frames := 1, cells := 1, slots := 12, locals := 12 }) (va_Pc [.ref adF] (zpre dC dI cB cI cL sz ([(adF, .inr (4, [.null, .int (0 : Int32), .int (0 : Int32), .int (0 : Int32), .int (0 : Int32), .long (0 : Int64), .long (0 : Int64)]))]))) (q_F_init dC dI cB cI cL (va_A ([(adF, .inr (4, [.null, .int (0 : Int32), .int (0 : Int32), .int (0 : Int32), .int (0 : Int32), .long (0 : Int64), .long (0 : Int64)]))]) sz) adF a) 1 12 (va_A ([(adF, .inr (4, [.null, .int (0 : Int32), .int (0 : Int32), .int (0 : Int32), .int (0 : Int32), .long (0 : Int64), .long (0 : Int64)]))]) sz) := by
  refine Met.ofW (cc := b_F_init) (maxL := 1) (ret := none) (by decide) rfl ?_
  intro p e s m args below meth c s₁ B hml hv
  obtain ⟨rfl, hsz, hP, zz, hD0⟩ := hv
  subst hsz
  have X := zx_of (F := 1) (L := 12) B hml (Nat.le_refl _) (Nat.le_refl _)
  have hD := hD0.self (sz := s.heap.size)
  have hA : ∀ q : Nat, s.heap.size ≤ q → va_A ([(adF, .inr (4, [.null, .int (0 : Int32), .int (0 : Int32), .int (0 : Int32), .int (0 : Int32), .long (0 : Int64), .long (0 : Int64)]))]) s.heap.size q := fun q h => Or.inr h
  have hl := lv_entry ([.ref adF]) (n := 1) (Nat.le_of_ble_eq_true rfl)
  rw [lg_entry_eq]
  generalize (lg_sl ([.ref adF]) ++ List.replicate (1 - (lg_sl ([.ref adF])).length) Slot.unset).toArray = ls at hl ⊢
  have hin : meth.name = "<init>" := (name_of_methodNamed B.named B.method).1
  exact k_F_init_0 X hA zz hin (Nat.le_refl _) (Nat.le_refl _) a hG adF _ _ hP hD va_S.rf ls hl
noncomputable def g_H_init  : Option (zH) := some ((fun _ => (0 : Int32)))
def q_H_init (dC : Nat → ClassId) (dI : Nat → Nat → Nat) (cB cI cL : ClassId) (A : Nat → Prop) (adH : Nat) (a : zH) : Array Value → State → Outcome → State → Prop := va_Qv (fun (u : zH × Nat) => (u.1) = a) (fun u U => va_P (dC, dI) zcl (zwH adH u.2 cB cI cL u.1) U.heap ∧ va_D A (zwH adH u.2 cB cI cL u.1)) A
set_option maxRecDepth 100000 in
set_option maxHeartbeats 4000000 in
theorem k_H_init_0 {p : Program} {l : Launch} {e : Env} {R : Room} {s : State} {m : MethodId} {args : Array Value} {below : List Frame} {meth : Method} {c : Code} {dC : Nat → ClassId} {dI : Nat → Nat → Nat} {cB cI cL : ClassId} {A : Nat → Prop} (X : zx p s m args meth c R R_H b_H_init none 1 1 12) (hA : ∀ q, s.heap.size ≤ q → A q) (zz : zk dC dI cB cI cL A s) (hin : meth.name = "<init>") (hRc : 1 ≤ R.cells) (hRz : 12 ≤ R.slots)  (a : zH) (hG : g_H_init  = some a) (adH : Nat) (H : Heap) (locs : List Loc) (hP : va_P (dC, dI) zcl ([(adH, .inr (5, [.null]))]) H) (hD : va_D A ([(adH, .inr (5, [.null]))])) (hS : va_S A s.heap H locs) (ls : Array Slot) (hl : lv_has ls 1 [(0, .ref adH)]) : W p l e R s m args below meth c H locs 0 0 (MQ below (q_H_init dC dI cB cI cL A adH a) args s 1 12 A) (F0 m 0 ls []) := by
  obtain ⟨hx, hb, hr, hml, hown, hts, hlocks, hRf, hRl⟩ := id X
  unfold g_H_init at hG
  refine lv_aload_n hx hb d_H_init_0 rfl (lv_at hl 0 rfl) ?_
  refine W.objInit hx hb hown (hts (.methodLink R_H 3 objectInit) zin_H_3) (hts (.instanceMethod objectInit) zin_obj1) (hts _ zin_obj2) rfl (by rw [hml]; exact hl.1) rfl d_H_init_1 (Nat.le_trans (Nat.le_of_ble_eq_true rfl) hRf) (Nat.le_trans (Nat.le_of_ble_eq_true rfl) hRl) ?_
  refine W.eq (g2 := F0 m 4 ls []) rfl ?_
  refine lv_aload_n hx hb d_H_init_4 rfl (lv_at hl 0 rfl) ?_
  refine lv_bipush (v := (12 : Int32)) hx hb d_H_init_5 (by decide) ?_
  refine va_newa (atype := .int) (ty := .int) (N' := 12) (a0 := (12, .inl (fun _ => (0 : Int32)))) hx hb (hts (.arrayClass .int) zin_arrI) rfl zz.1 hP hD hS hA (fun _ => rfl) (by decide) (by decide) (by decide) (Nat.le_trans (Nat.le_of_ble_eq_true rfl) hRc) (Nat.le_trans (Nat.le_of_ble_eq_true rfl) hRz) d_H_init_7 (fun q7 cA9 H hK9 hP hD hS => ?_)
  obtain rfl := zarrI hK9
  have hP : va_P (dC, dI) zcl ([(adH, .inr (5, [.null])), (q7, .inl (cI, 12, .inl (fun _ => (0 : Int32))))]) H := hP
  have hD : va_D A ([(adH, .inr (5, [.null])), (q7, .inl (cI, 12, .inl (fun _ => (0 : Int32))))]) := hD
  refine W.widen (k := 1) (n := 12) (by decide) (by decide) ?_
  refine va_putF (D := (dC, dI)) (ci := 5) (v := .ref q7) (ty := (.array .int)) (C := R_H) (T := F_H) (N := 1) hx hb hts zi_H zty_H zty_H_ok znm_H hown zz.1 hP hD hS 0 rfl rfl 0 (by decide) (hts (.fieldLink R_H 9 "WireCodec$Header" "parts" "[I") zin_H_9) (fun _ h9 => h9) rfl hin rfl (by decide +kernel) rfl rfl (Nat.le_of_ble_eq_true rfl) d_H_init_9 (fun H locs hP hD hS => ?_)
  have hP : va_P (dC, dI) zcl ([(adH, .inr (5, [.ref q7])), (q7, .inl (cI, 12, .inl (fun _ => (0 : Int32))))]) H := hP
  have hD : va_D A ([(adH, .inr (5, [.ref q7])), (q7, .inl (cI, 12, .inl (fun _ => (0 : Int32))))]) := hD
  exact W.vret hx hb hr (fun t9 ht9 hW9 => ⟨⟨((fun _ => (0 : Int32)), q7), rfl, Option.some.inj hG, by rw [ht9]; exact hP, hD⟩, hS.F ht9⟩) hS.2.2 d_H_init_12
set_option maxRecDepth 100000 in
set_option maxHeartbeats 4000000 in
theorem c_H_init (l : Launch) (dC : Nat → ClassId) (dI : Nat → Nat → Nat) (cB cI cL : ClassId) (sz : Nat) (adH : Nat) (a : zH) (hG : g_H_init = some a) : Met l y_H_init (zw y_H_init b_H_init 1 none) ({ frames := 1, cells := 1, slots := 12, locals := 12 }) (va_Pc [.ref adH] (zpre dC dI cB cI cL sz ([(adH, .inr (5, [.null]))]))) (q_H_init dC dI cB cI cL (va_A ([(adH, .inr (5, [.null]))]) sz) adH a) 1 12 (va_A ([(adH, .inr (5, [.null]))]) sz) := by
  refine Met.ofW (cc := b_H_init) (maxL := 1) (ret := none) (by decide) rfl ?_
  intro p e s m args below meth c s₁ B hml hv
  obtain ⟨rfl, hsz, hP, zz, hD0⟩ := hv
  subst hsz
  have X := zx_of (F := 1) (L := 12) B hml (Nat.le_refl _) (Nat.le_refl _)
  have hD := hD0.self (sz := s.heap.size)
  have hA : ∀ q : Nat, s.heap.size ≤ q → va_A ([(adH, .inr (5, [.null]))]) s.heap.size q := fun q h => Or.inr h
  have hl := lv_entry ([.ref adH]) (n := 1) (Nat.le_of_ble_eq_true rfl)
  rw [lg_entry_eq]
  generalize (lg_sl ([.ref adH]) ++ List.replicate (1 - (lg_sl ([.ref adH])).length) Slot.unset).toArray = ls at hl ⊢
  have hin : meth.name = "<init>" := (name_of_methodNamed B.named B.method).1
  exact k_H_init_0 X hA zz hin (Nat.le_refl _) (Nat.le_refl _) a hG adH _ _ hP hD va_S.rf ls hl
noncomputable def g_R_init  : Option (zR) := some (((0 : Int32), (0 : Int32), (0 : Int32)))
def q_R_init (dC : Nat → ClassId) (dI : Nat → Nat → Nat) (cB cI cL : ClassId) (A : Nat → Prop) (adR : Nat) (adT : Nat) (a : zR) : Array Value → State → Outcome → State → Prop := va_Qv (fun (u : zR) => (u) = a) (fun u U => va_P (dC, dI) zcl (zwR adR adT cB cI cL u) U.heap ∧ va_D A (zwR adR adT cB cI cL u)) A
set_option maxRecDepth 100000 in
set_option maxHeartbeats 4000000 in
theorem k_R_init_0 {p : Program} {l : Launch} {e : Env} {R : Room} {s : State} {m : MethodId} {args : Array Value} {below : List Frame} {meth : Method} {c : Code} {dC : Nat → ClassId} {dI : Nat → Nat → Nat} {cB cI cL : ClassId} {A : Nat → Prop} {adT : Nat} (X : zx p s m args meth c R R_R b_R_init none 2 1 12) (hA : ∀ q, s.heap.size ≤ q → A q) (zz : zk dC dI cB cI cL A s) (hin : meth.name = "<init>")  (a : zR) (hG : g_R_init  = some a) (adR : Nat) (H : Heap) (locs : List Loc) (hP : va_P (dC, dI) zcl ([(adR, .inr (2, [.null, .int (0 : Int32), .int (0 : Int32), .int (0 : Int32)]))]) H) (hD : va_D A ([(adR, .inr (2, [.null, .int (0 : Int32), .int (0 : Int32), .int (0 : Int32)]))])) (hS : va_S A s.heap H locs) (ls : Array Slot) (hl : lv_has ls 2 [(0, .ref adR), (1, .ref adT)]) : W p l e R s m args below meth c H locs 0 0 (MQ below (q_R_init dC dI cB cI cL A adR adT a) args s 0 0 A) (F0 m 0 ls []) := by
  obtain ⟨hx, hb, hr, hml, hown, hts, hlocks, hRf, hRl⟩ := id X
  unfold g_R_init at hG
  refine lv_aload_n hx hb d_R_init_0 rfl (lv_at hl 0 rfl) ?_
  refine W.objInit hx hb hown (hts (.methodLink R_R 1 objectInit) zin_R_1) (hts (.instanceMethod objectInit) zin_obj1) (hts _ zin_obj2) rfl (by rw [hml]; exact hl.1) rfl d_R_init_1 (Nat.le_trans (Nat.le_of_ble_eq_true rfl) hRf) (Nat.le_trans (Nat.le_of_ble_eq_true rfl) hRl) ?_
  refine W.eq (g2 := F0 m 4 ls []) rfl ?_
  refine lv_aload_n hx hb d_R_init_4 rfl (lv_at hl 0 rfl) ?_
  refine lv_aload_n hx hb d_R_init_5 rfl (lv_at hl 1 rfl) ?_
  refine va_putF (D := (dC, dI)) (ci := 2) (v := .ref adT) (ty := .object "WireCodec$Tape") (C := R_R) (T := F_R) (N := 4) hx hb hts zi_R zty_R zty_R_ok znm_R hown zz.1 hP hD hS 0 rfl rfl 0 (by decide) (hts (.fieldLink R_R 7 "WireCodec$Reader" "tape" "LWireCodec$Tape;") zin_R_7) (fun _ h9 => h9) rfl hin rfl (by decide +kernel) rfl rfl (Nat.le_of_ble_eq_true rfl) d_R_init_6 (fun H locs hP hD hS => ?_)
  have hP : va_P (dC, dI) zcl ([(adR, .inr (2, [.ref adT, .int (0 : Int32), .int (0 : Int32), .int (0 : Int32)]))]) H := hP
  have hD : va_D A ([(adR, .inr (2, [.ref adT, .int (0 : Int32), .int (0 : Int32), .int (0 : Int32)]))]) := hD
  exact W.vret hx hb hr (fun t9 ht9 hW9 => ⟨⟨(((0 : Int32), (0 : Int32), (0 : Int32))), rfl, Option.some.inj hG, by rw [ht9]; exact hP, hD⟩, hS.F ht9⟩) hS.2.2 d_R_init_9
set_option maxRecDepth 100000 in
set_option maxHeartbeats 4000000 in
theorem c_R_init (l : Launch) (dC : Nat → ClassId) (dI : Nat → Nat → Nat) (cB cI cL : ClassId) (sz : Nat) (adR adT : Nat) (a : zR) (hG : g_R_init = some a) : Met l y_R_init (zw y_R_init b_R_init 2 none) ({ frames := 1, cells := 0, slots := 0, locals := 12 }) (va_Pc [.ref adR, .ref adT] (zpre dC dI cB cI cL sz ([(adR, .inr (2, [.null, .int (0 : Int32), .int (0 : Int32), .int (0 : Int32)]))]))) (q_R_init dC dI cB cI cL (va_A ([(adR, .inr (2, [.null, .int (0 : Int32), .int (0 : Int32), .int (0 : Int32)]))]) sz) adR adT a) 0 0 (va_A ([(adR, .inr (2, [.null, .int (0 : Int32), .int (0 : Int32), .int (0 : Int32)]))]) sz) := by
  refine Met.ofW (cc := b_R_init) (maxL := 2) (ret := none) (by decide) rfl ?_
  intro p e s m args below meth c s₁ B hml hv
  obtain ⟨rfl, hsz, hP, zz, hD0⟩ := hv
  subst hsz
  have X := zx_of (F := 1) (L := 12) B hml (Nat.le_refl _) (Nat.le_refl _)
  have hD := hD0.self (sz := s.heap.size)
  have hA : ∀ q : Nat, s.heap.size ≤ q → va_A ([(adR, .inr (2, [.null, .int (0 : Int32), .int (0 : Int32), .int (0 : Int32)]))]) s.heap.size q := fun q h => Or.inr h
  have hl := lv_entry ([.ref adR, .ref adT]) (n := 2) (Nat.le_of_ble_eq_true rfl)
  rw [lg_entry_eq]
  generalize (lg_sl ([.ref adR, .ref adT]) ++ List.replicate (2 - (lg_sl ([.ref adR, .ref adT])).length) Slot.unset).toArray = ls at hl ⊢
  have hin : meth.name = "<init>" := (name_of_methodNamed B.named B.method).1
  exact k_R_init_0 X hA zz hin a hG adR _ _ hP hD va_S.rf ls hl
noncomputable def g_G_init  : Option (zG) := some (((fun _ => (0 : Int32)), 512, (0 : Int32), (0 : Int32), (0 : Int32), (0 : Int32), (0 : Int32), (-1 : Int32)))
def q_G_init (dC : Nat → ClassId) (dI : Nat → Nat → Nat) (cB cI cL : ClassId) (A : Nat → Prop) (adG : Nat) (a : zG) : Array Value → State → Outcome → State → Prop := va_Qv (fun (u : zG × Nat) => (u.1) = a) (fun u U => va_P (dC, dI) zcl (zwG adG u.2 cB cI cL u.1) U.heap ∧ va_D A (zwG adG u.2 cB cI cL u.1)) A
set_option maxRecDepth 100000 in
set_option maxHeartbeats 4000000 in
theorem k_G_init_0 {p : Program} {l : Launch} {e : Env} {R : Room} {s : State} {m : MethodId} {args : Array Value} {below : List Frame} {meth : Method} {c : Code} {dC : Nat → ClassId} {dI : Nat → Nat → Nat} {cB cI cL : ClassId} {A : Nat → Prop} (X : zx p s m args meth c R R_G b_G_init none 1 1 12) (hA : ∀ q, s.heap.size ≤ q → A q) (zz : zk dC dI cB cI cL A s) (hin : meth.name = "<init>") (hRc : 1 ≤ R.cells) (hRz : 512 ≤ R.slots)  (a : zG) (hG : g_G_init  = some a) (adG : Nat) (H : Heap) (locs : List Loc) (hP : va_P (dC, dI) zcl ([(adG, .inr (3, [.null, .int (0 : Int32), .int (0 : Int32), .int (0 : Int32), .int (0 : Int32), .int (0 : Int32), .int (0 : Int32)]))]) H) (hD : va_D A ([(adG, .inr (3, [.null, .int (0 : Int32), .int (0 : Int32), .int (0 : Int32), .int (0 : Int32), .int (0 : Int32), .int (0 : Int32)]))])) (hS : va_S A s.heap H locs) (ls : Array Slot) (hl : lv_has ls 1 [(0, .ref adG)]) : W p l e R s m args below meth c H locs 0 0 (MQ below (q_G_init dC dI cB cI cL A adG a) args s 1 512 A) (F0 m 0 ls []) := by
  obtain ⟨hx, hb, hr, hml, hown, hts, hlocks, hRf, hRl⟩ := id X
  unfold g_G_init at hG
  refine lv_aload_n hx hb d_G_init_0 rfl (lv_at hl 0 rfl) ?_
  refine W.objInit hx hb hown (hts (.methodLink R_G 3 objectInit) zin_G_3) (hts (.instanceMethod objectInit) zin_obj1) (hts _ zin_obj2) rfl (by rw [hml]; exact hl.1) rfl d_G_init_1 (Nat.le_trans (Nat.le_of_ble_eq_true rfl) hRf) (Nat.le_trans (Nat.le_of_ble_eq_true rfl) hRl) ?_
  refine W.eq (g2 := F0 m 4 ls []) rfl ?_
  refine lv_aload_n hx hb d_G_init_4 rfl (lv_at hl 0 rfl) ?_
  refine lv_sipush (v := (512 : Int32)) hx hb d_G_init_5 (by decide) ?_
  refine va_newa (atype := .int) (ty := .int) (N' := 512) (a0 := (512, .inl (fun _ => (0 : Int32)))) hx hb (hts (.arrayClass .int) zin_arrI) rfl zz.1 hP hD hS hA (fun _ => rfl) (by decide) (by decide) (by decide) (Nat.le_trans (Nat.le_of_ble_eq_true rfl) hRc) (Nat.le_trans (Nat.le_of_ble_eq_true rfl) hRz) d_G_init_8 (fun q8 cA9 H hK9 hP hD hS => ?_)
  obtain rfl := zarrI hK9
  have hP : va_P (dC, dI) zcl ([(adG, .inr (3, [.null, .int (0 : Int32), .int (0 : Int32), .int (0 : Int32), .int (0 : Int32), .int (0 : Int32), .int (0 : Int32)])), (q8, .inl (cI, 512, .inl (fun _ => (0 : Int32))))]) H := hP
  have hD : va_D A ([(adG, .inr (3, [.null, .int (0 : Int32), .int (0 : Int32), .int (0 : Int32), .int (0 : Int32), .int (0 : Int32), .int (0 : Int32)])), (q8, .inl (cI, 512, .inl (fun _ => (0 : Int32))))]) := hD
  refine W.widen (k := 1) (n := 512) (by decide) (by decide) ?_
  refine va_put (D := (dC, dI)) (ci := 3) (v := .ref q8) (ty := (.array .int)) (C := R_G) (T := F_G) (N := 7) hx hb hts zi_G zty_G zty_G_ok znm_G hown zz.1 hP hD hS 0 rfl rfl 0 (by decide) (hts (.fieldLink R_G 9 "WireCodec$Reading" "places" "[I") zin_G_9) (fun _ h9 => h9) rfl (by decide +kernel) rfl rfl (Nat.le_of_ble_eq_true rfl) d_G_init_10 (fun H locs hP hD hS => ?_)
  have hP : va_P (dC, dI) zcl ([(adG, .inr (3, [.ref q8, .int (0 : Int32), .int (0 : Int32), .int (0 : Int32), .int (0 : Int32), .int (0 : Int32), .int (0 : Int32)])), (q8, .inl (cI, 512, .inl (fun _ => (0 : Int32))))]) H := hP
  have hD : va_D A ([(adG, .inr (3, [.ref q8, .int (0 : Int32), .int (0 : Int32), .int (0 : Int32), .int (0 : Int32), .int (0 : Int32), .int (0 : Int32)])), (q8, .inl (cI, 512, .inl (fun _ => (0 : Int32))))]) := hD
  refine lv_aload_n hx hb d_G_init_13 rfl (lv_at hl 0 rfl) ?_
  refine lv_iconst (v := (-1 : Int32)) hx hb d_G_init_14 (by decide) ?_
  refine va_put (D := (dC, dI)) (ci := 3) (v := .int (-1 : Int32)) (ty := .int) (C := R_G) (T := F_G) (N := 7) hx hb hts zi_G zty_G zty_G_ok znm_G hown zz.1 hP hD hS 0 rfl rfl 6 (by decide) (hts (.fieldLink R_G 15 "WireCodec$Reading" "wrongPlace" "I") zin_G_15) (fun _ h9 => h9) rfl (by decide +kernel) rfl rfl (Nat.le_of_ble_eq_true rfl) d_G_init_15 (fun H locs hP hD hS => ?_)
  have hP : va_P (dC, dI) zcl ([(adG, .inr (3, [.ref q8, .int (0 : Int32), .int (0 : Int32), .int (0 : Int32), .int (0 : Int32), .int (0 : Int32), .int (-1 : Int32)])), (q8, .inl (cI, 512, .inl (fun _ => (0 : Int32))))]) H := hP
  have hD : va_D A ([(adG, .inr (3, [.ref q8, .int (0 : Int32), .int (0 : Int32), .int (0 : Int32), .int (0 : Int32), .int (0 : Int32), .int (-1 : Int32)])), (q8, .inl (cI, 512, .inl (fun _ => (0 : Int32))))]) := hD
  exact W.vret hx hb hr (fun t9 ht9 hW9 => ⟨⟨(((fun _ => (0 : Int32)), 512, (0 : Int32), (0 : Int32), (0 : Int32), (0 : Int32), (0 : Int32), (-1 : Int32)), q8), rfl, Option.some.inj hG, by rw [ht9]; exact hP, hD⟩, hS.F ht9⟩) hS.2.2 d_G_init_18
set_option maxRecDepth 100000 in
set_option maxHeartbeats 4000000 in
theorem c_G_init (l : Launch) (dC : Nat → ClassId) (dI : Nat → Nat → Nat) (cB cI cL : ClassId) (sz : Nat) (adG : Nat) (a : zG) (hG : g_G_init = some a) : Met l y_G_init (zw y_G_init b_G_init 1 none) ({ frames := 1, cells := 1, slots := 512, locals := 12 }) (va_Pc [.ref adG] (zpre dC dI cB cI cL sz ([(adG, .inr (3, [.null, .int (0 : Int32), .int (0 : Int32), .int (0 : Int32), .int (0 : Int32), .int (0 : Int32), .int (0 : Int32)]))]))) (q_G_init dC dI cB cI cL (va_A ([(adG, .inr (3, [.null, .int (0 : Int32), .int (0 : Int32), .int (0 : Int32), .int (0 : Int32), .int (0 : Int32), .int (0 : Int32)]))]) sz) adG a) 1 512 (va_A ([(adG, .inr (3, [.null, .int (0 : Int32), .int (0 : Int32), .int (0 : Int32), .int (0 : Int32), .int (0 : Int32), .int (0 : Int32)]))]) sz) := by
  refine Met.ofW (cc := b_G_init) (maxL := 1) (ret := none) (by decide) rfl ?_
  intro p e s m args below meth c s₁ B hml hv
  obtain ⟨rfl, hsz, hP, zz, hD0⟩ := hv
  subst hsz
  have X := zx_of (F := 1) (L := 12) B hml (Nat.le_refl _) (Nat.le_refl _)
  have hD := hD0.self (sz := s.heap.size)
  have hA : ∀ q : Nat, s.heap.size ≤ q → va_A ([(adG, .inr (3, [.null, .int (0 : Int32), .int (0 : Int32), .int (0 : Int32), .int (0 : Int32), .int (0 : Int32), .int (0 : Int32)]))]) s.heap.size q := fun q h => Or.inr h
  have hl := lv_entry ([.ref adG]) (n := 1) (Nat.le_of_ble_eq_true rfl)
  rw [lg_entry_eq]
  generalize (lg_sl ([.ref adG]) ++ List.replicate (1 - (lg_sl ([.ref adG])).length) Slot.unset).toArray = ls at hl ⊢
  have hin : meth.name = "<init>" := (name_of_methodNamed B.named B.method).1
  exact k_G_init_0 X hA zz hin (Nat.le_refl _) (Nat.le_refl _) a hG adG _ _ hP hD va_S.rf ls hl
noncomputable def g_T_init  : Option (zT) := some (((fun _ => (0 : Int32)), 1024, (0 : Int32), (0 : Int32)))
def q_T_init (dC : Nat → ClassId) (dI : Nat → Nat → Nat) (cB cI cL : ClassId) (A : Nat → Prop) (adT : Nat) (a : zT) : Array Value → State → Outcome → State → Prop := va_Qv (fun (u : zT × Nat) => (u.1) = a) (fun u U => va_P (dC, dI) zcl (zwT adT u.2 cB cI cL u.1) U.heap ∧ va_D A (zwT adT u.2 cB cI cL u.1)) A
set_option maxRecDepth 100000 in
set_option maxHeartbeats 4000000 in
theorem k_T_init_0 {p : Program} {l : Launch} {e : Env} {R : Room} {s : State} {m : MethodId} {args : Array Value} {below : List Frame} {meth : Method} {c : Code} {dC : Nat → ClassId} {dI : Nat → Nat → Nat} {cB cI cL : ClassId} {A : Nat → Prop} (X : zx p s m args meth c R R_T b_T_init none 1 1 12) (hA : ∀ q, s.heap.size ≤ q → A q) (zz : zk dC dI cB cI cL A s) (hin : meth.name = "<init>") (hRc : 1 ≤ R.cells) (hRz : 1024 ≤ R.slots)  (a : zT) (hG : g_T_init  = some a) (adT : Nat) (H : Heap) (locs : List Loc) (hP : va_P (dC, dI) zcl ([(adT, .inr (1, [.null, .int (0 : Int32), .int (0 : Int32)]))]) H) (hD : va_D A ([(adT, .inr (1, [.null, .int (0 : Int32), .int (0 : Int32)]))])) (hS : va_S A s.heap H locs) (ls : Array Slot) (hl : lv_has ls 1 [(0, .ref adT)]) : W p l e R s m args below meth c H locs 0 0 (MQ below (q_T_init dC dI cB cI cL A adT a) args s 1 1024 A) (F0 m 0 ls []) := by
  obtain ⟨hx, hb, hr, hml, hown, hts, hlocks, hRf, hRl⟩ := id X
  unfold g_T_init at hG
  refine lv_aload_n hx hb d_T_init_0 rfl (lv_at hl 0 rfl) ?_
  refine W.objInit hx hb hown (hts (.methodLink R_T 3 objectInit) zin_T_3) (hts (.instanceMethod objectInit) zin_obj1) (hts _ zin_obj2) rfl (by rw [hml]; exact hl.1) rfl d_T_init_1 (Nat.le_trans (Nat.le_of_ble_eq_true rfl) hRf) (Nat.le_trans (Nat.le_of_ble_eq_true rfl) hRl) ?_
  refine W.eq (g2 := F0 m 4 ls []) rfl ?_
  refine lv_aload_n hx hb d_T_init_4 rfl (lv_at hl 0 rfl) ?_
  refine lv_sipush (v := (1024 : Int32)) hx hb d_T_init_5 (by decide) ?_
  refine va_newa (atype := .byte) (ty := .byte) (N' := 1024) (a0 := (1024, .inl (fun _ => (0 : Int32)))) hx hb (hts (.arrayClass .byte) zin_arrB) rfl zz.1 hP hD hS hA (fun _ => rfl) (by decide) (by decide) (by decide) (Nat.le_trans (Nat.le_of_ble_eq_true rfl) hRc) (Nat.le_trans (Nat.le_of_ble_eq_true rfl) hRz) d_T_init_8 (fun q8 cA9 H hK9 hP hD hS => ?_)
  obtain rfl := zarrB hK9
  have hP : va_P (dC, dI) zcl ([(adT, .inr (1, [.null, .int (0 : Int32), .int (0 : Int32)])), (q8, .inl (cB, 1024, .inl (fun _ => (0 : Int32))))]) H := hP
  have hD : va_D A ([(adT, .inr (1, [.null, .int (0 : Int32), .int (0 : Int32)])), (q8, .inl (cB, 1024, .inl (fun _ => (0 : Int32))))]) := hD
  refine W.widen (k := 1) (n := 1024) (by decide) (by decide) ?_
  refine va_put (D := (dC, dI)) (ci := 1) (v := .ref q8) (ty := (.array .byte)) (C := R_T) (T := F_T) (N := 3) hx hb hts zi_T zty_T zty_T_ok znm_T hown zz.1 hP hD hS 0 rfl rfl 0 (by decide) (hts (.fieldLink R_T 9 "WireCodec$Tape" "bytes" "[B") zin_T_9) (fun _ h9 => h9) rfl (by decide +kernel) rfl rfl (Nat.le_of_ble_eq_true rfl) d_T_init_10 (fun H locs hP hD hS => ?_)
  have hP : va_P (dC, dI) zcl ([(adT, .inr (1, [.ref q8, .int (0 : Int32), .int (0 : Int32)])), (q8, .inl (cB, 1024, .inl (fun _ => (0 : Int32))))]) H := hP
  have hD : va_D A ([(adT, .inr (1, [.ref q8, .int (0 : Int32), .int (0 : Int32)])), (q8, .inl (cB, 1024, .inl (fun _ => (0 : Int32))))]) := hD
  exact W.vret hx hb hr (fun t9 ht9 hW9 => ⟨⟨(((fun _ => (0 : Int32)), 1024, (0 : Int32), (0 : Int32)), q8), rfl, Option.some.inj hG, by rw [ht9]; exact hP, hD⟩, hS.F ht9⟩) hS.2.2 d_T_init_13
set_option maxRecDepth 100000 in
set_option maxHeartbeats 4000000 in
theorem c_T_init (l : Launch) (dC : Nat → ClassId) (dI : Nat → Nat → Nat) (cB cI cL : ClassId) (sz : Nat) (adT : Nat) (a : zT) (hG : g_T_init = some a) : Met l y_T_init (zw y_T_init b_T_init 1 none) ({ frames := 1, cells := 1, slots := 1024, locals := 12 }) (va_Pc [.ref adT] (zpre dC dI cB cI cL sz ([(adT, .inr (1, [.null, .int (0 : Int32), .int (0 : Int32)]))]))) (q_T_init dC dI cB cI cL (va_A ([(adT, .inr (1, [.null, .int (0 : Int32), .int (0 : Int32)]))]) sz) adT a) 1 1024 (va_A ([(adT, .inr (1, [.null, .int (0 : Int32), .int (0 : Int32)]))]) sz) := by
  refine Met.ofW (cc := b_T_init) (maxL := 1) (ret := none) (by decide) rfl ?_
  intro p e s m args below meth c s₁ B hml hv
  obtain ⟨rfl, hsz, hP, zz, hD0⟩ := hv
  subst hsz
  have X := zx_of (F := 1) (L := 12) B hml (Nat.le_refl _) (Nat.le_refl _)
  have hD := hD0.self (sz := s.heap.size)
  have hA : ∀ q : Nat, s.heap.size ≤ q → va_A ([(adT, .inr (1, [.null, .int (0 : Int32), .int (0 : Int32)]))]) s.heap.size q := fun q h => Or.inr h
  have hl := lv_entry ([.ref adT]) (n := 1) (Nat.le_of_ble_eq_true rfl)
  rw [lg_entry_eq]
  generalize (lg_sl ([.ref adT]) ++ List.replicate (1 - (lg_sl ([.ref adT])).length) Slot.unset).toArray = ls at hl ⊢
  have hin : meth.name = "<init>" := (name_of_methodNamed B.named B.method).1
  exact k_T_init_0 X hA zz hin (Nat.le_refl _) (Nat.le_refl _) a hG adT _ _ hP hD va_S.rf ls hl
noncomputable def g_M_init_c85 (sM_85 : zM) : Option (zM) := some (sM_85)
noncomputable def g_M_init (N : Nat)  : Option (zM) := (g_M_forget N ((0 : Int32), (fun _ => (0 : Int32)), (0 : Int32), (0 : Int32), (-1 : Int32), (0 : Int32), (fun _ => (0 : Int32)), (0 : Int32), (fun _ => (0 : Int64)), (0 : Int32), (0 : Int32), (0 : Int32), (0 : Int32), (0 : Int32), (0 : Int32), (0 : Int32), (0 : Int32), (fun _ => (0 : Int64)), (fun _ => (0 : Int32)), (0 : Int32), (fun _ => (0 : Int64)), (fun _ => (0 : Int64)), (0 : Int32), (0 : Int32), (fun _ => (0 : Int32)), (fun _ => (0 : Int64)))).bind (fun a => g_M_init_c85 a)
def q_M_init (dC : Nat → ClassId) (dI : Nat → Nat → Nat) (cB cI cL : ClassId) (A : Nat → Prop) (adM : Nat) (a : zM) : Array Value → State → Outcome → State → Prop := va_Qv (fun (u : zM × Nat × Nat × Nat × Nat × Nat × Nat × Nat × Nat × Nat) => (u.1) = a) (fun u U => va_P (dC, dI) zcl (zwM adM u.2.1 u.2.2.1 u.2.2.2.1 u.2.2.2.2.1 u.2.2.2.2.2.1 u.2.2.2.2.2.2.1 u.2.2.2.2.2.2.2.1 u.2.2.2.2.2.2.2.2.1 u.2.2.2.2.2.2.2.2.2 cB cI cL u.1) U.heap ∧ va_D A (zwM adM u.2.1 u.2.2.1 u.2.2.2.1 u.2.2.2.2.1 u.2.2.2.2.2.1 u.2.2.2.2.2.2.1 u.2.2.2.2.2.2.2.1 u.2.2.2.2.2.2.2.2.1 u.2.2.2.2.2.2.2.2.2 cB cI cL u.1)) A
set_option maxRecDepth 100000 in
set_option maxHeartbeats 4000000 in
theorem k_M_init_0 {p : Program} {l : Launch} {e : Env} {R : Room} {s : State} {m : MethodId} {args : Array Value} {below : List Frame} {meth : Method} {c : Code} {dC : Nat → ClassId} {dI : Nat → Nat → Nat} {cB cI cL : ClassId} {A : Nat → Prop} (X : zx p s m args meth c R R_M b_M_init none 1 3 61) (hA : ∀ q, s.heap.size ≤ q → A q) (zz : zk dC dI cB cI cL A s) (hin : meth.name = "<init>") (hRc : 9 ≤ R.cells) (hRz : 183265 ≤ R.slots)  (N : Nat) (a : zM) (hG : g_M_init N  = some a) (adM : Nat) (H : Heap) (locs : List Loc) (hP : va_P (dC, dI) zcl ([(adM, .inr (8, [.int (0 : Int32), .null, .int (0 : Int32), .int (0 : Int32), .int (0 : Int32), .int (0 : Int32), .null, .int (0 : Int32), .null, .int (0 : Int32), .int (0 : Int32), .int (0 : Int32), .int (0 : Int32), .int (0 : Int32), .int (0 : Int32), .int (0 : Int32), .int (0 : Int32), .null, .null, .int (0 : Int32), .null, .null, .int (0 : Int32), .int (0 : Int32), .null, .null]))]) H) (hD : va_D A ([(adM, .inr (8, [.int (0 : Int32), .null, .int (0 : Int32), .int (0 : Int32), .int (0 : Int32), .int (0 : Int32), .null, .int (0 : Int32), .null, .int (0 : Int32), .int (0 : Int32), .int (0 : Int32), .int (0 : Int32), .int (0 : Int32), .int (0 : Int32), .int (0 : Int32), .int (0 : Int32), .null, .null, .int (0 : Int32), .null, .null, .int (0 : Int32), .int (0 : Int32), .null, .null]))])) (hS : va_S A s.heap H locs) (ls : Array Slot) (hl : lv_has ls 1 [(0, .ref adM)]) : W p l e R s m args below meth c H locs 0 0 (MQ below (q_M_init dC dI cB cI cL A adM a) args s 9 183265 A) (F0 m 0 ls []) := by
  obtain ⟨hx, hb, hr, hml, hown, hts, hlocks, hRf, hRl⟩ := id X
  unfold g_M_init at hG
  refine lv_aload_n hx hb d_M_init_0 rfl (lv_at hl 0 rfl) ?_
  refine W.objInit hx hb hown (hts (.methodLink R_M 1 objectInit) zin_M_1) (hts (.instanceMethod objectInit) zin_obj1) (hts _ zin_obj2) rfl (by rw [hml]; exact hl.1) rfl d_M_init_1 (Nat.le_trans (Nat.le_of_ble_eq_true rfl) hRf) (Nat.le_trans (Nat.le_of_ble_eq_true rfl) hRl) ?_
  refine W.eq (g2 := F0 m 4 ls []) rfl ?_
  refine lv_aload_n hx hb d_M_init_4 rfl (lv_at hl 0 rfl) ?_
  refine lv_ldc (v := (65536 : Int32)) hx hb hown (hts (.constant R_M 7 (65536 : Int32)) zin_M_7) d_M_init_5 ?_
  refine va_newa (atype := .byte) (ty := .byte) (N' := 65536) (a0 := (65536, .inl (fun _ => (0 : Int32)))) hx hb (hts (.arrayClass .byte) zin_arrB) rfl zz.1 hP hD hS hA (fun _ => rfl) (by decide) (by decide) (by decide) (Nat.le_trans (Nat.le_of_ble_eq_true rfl) hRc) (Nat.le_trans (Nat.le_of_ble_eq_true rfl) hRz) d_M_init_7 (fun q7 cA9 H hK9 hP hD hS => ?_)
  obtain rfl := zarrB hK9
  have hP : va_P (dC, dI) zcl ([(adM, .inr (8, [.int (0 : Int32), .null, .int (0 : Int32), .int (0 : Int32), .int (0 : Int32), .int (0 : Int32), .null, .int (0 : Int32), .null, .int (0 : Int32), .int (0 : Int32), .int (0 : Int32), .int (0 : Int32), .int (0 : Int32), .int (0 : Int32), .int (0 : Int32), .int (0 : Int32), .null, .null, .int (0 : Int32), .null, .null, .int (0 : Int32), .int (0 : Int32), .null, .null])), (q7, .inl (cB, 65536, .inl (fun _ => (0 : Int32))))]) H := hP
  have hD : va_D A ([(adM, .inr (8, [.int (0 : Int32), .null, .int (0 : Int32), .int (0 : Int32), .int (0 : Int32), .int (0 : Int32), .null, .int (0 : Int32), .null, .int (0 : Int32), .int (0 : Int32), .int (0 : Int32), .int (0 : Int32), .int (0 : Int32), .int (0 : Int32), .int (0 : Int32), .int (0 : Int32), .null, .null, .int (0 : Int32), .null, .null, .int (0 : Int32), .int (0 : Int32), .null, .null])), (q7, .inl (cB, 65536, .inl (fun _ => (0 : Int32))))]) := hD
  refine W.widen (k := 1) (n := 65536) (by decide) (by decide) ?_
  refine va_putF (D := (dC, dI)) (ci := 8) (v := .ref q7) (ty := (.array .byte)) (C := R_M) (T := F_M) (N := 26) hx hb hts zi_M zty_M zty_M_ok znm_M hown zz.1 hP hD hS 0 rfl rfl 1 (by decide) (hts (.fieldLink R_M 8 "WireCodecModel" "tape" "[B") zin_M_8) (fun _ h9 => h9) rfl hin rfl (by decide +kernel) rfl rfl (Nat.le_of_ble_eq_true rfl) d_M_init_9 (fun H locs hP hD hS => ?_)
  have hP : va_P (dC, dI) zcl ([(adM, .inr (8, [.int (0 : Int32), .ref q7, .int (0 : Int32), .int (0 : Int32), .int (0 : Int32), .int (0 : Int32), .null, .int (0 : Int32), .null, .int (0 : Int32), .int (0 : Int32), .int (0 : Int32), .int (0 : Int32), .int (0 : Int32), .int (0 : Int32), .int (0 : Int32), .int (0 : Int32), .null, .null, .int (0 : Int32), .null, .null, .int (0 : Int32), .int (0 : Int32), .null, .null])), (q7, .inl (cB, 65536, .inl (fun _ => (0 : Int32))))]) H := hP
  have hD : va_D A ([(adM, .inr (8, [.int (0 : Int32), .ref q7, .int (0 : Int32), .int (0 : Int32), .int (0 : Int32), .int (0 : Int32), .null, .int (0 : Int32), .null, .int (0 : Int32), .int (0 : Int32), .int (0 : Int32), .int (0 : Int32), .int (0 : Int32), .int (0 : Int32), .int (0 : Int32), .int (0 : Int32), .null, .null, .int (0 : Int32), .null, .null, .int (0 : Int32), .int (0 : Int32), .null, .null])), (q7, .inl (cB, 65536, .inl (fun _ => (0 : Int32))))]) := hD
  refine lv_aload_n hx hb d_M_init_12 rfl (lv_at hl 0 rfl) ?_
  refine lv_iconst (v := (-1 : Int32)) hx hb d_M_init_13 (by decide) ?_
  refine va_put (D := (dC, dI)) (ci := 8) (v := .int (-1 : Int32)) (ty := .int) (C := R_M) (T := F_M) (N := 26) hx hb hts zi_M zty_M zty_M_ok znm_M hown zz.1 hP hD hS 0 rfl rfl 4 (by decide) (hts (.fieldLink R_M 14 "WireCodecModel" "faultAt" "I") zin_M_14) (fun _ h9 => h9) rfl (by decide +kernel) rfl rfl (Nat.le_of_ble_eq_true rfl) d_M_init_14 (fun H locs hP hD hS => ?_)
  have hP : va_P (dC, dI) zcl ([(adM, .inr (8, [.int (0 : Int32), .ref q7, .int (0 : Int32), .int (0 : Int32), .int (-1 : Int32), .int (0 : Int32), .null, .int (0 : Int32), .null, .int (0 : Int32), .int (0 : Int32), .int (0 : Int32), .int (0 : Int32), .int (0 : Int32), .int (0 : Int32), .int (0 : Int32), .int (0 : Int32), .null, .null, .int (0 : Int32), .null, .null, .int (0 : Int32), .int (0 : Int32), .null, .null])), (q7, .inl (cB, 65536, .inl (fun _ => (0 : Int32))))]) H := hP
  have hD : va_D A ([(adM, .inr (8, [.int (0 : Int32), .ref q7, .int (0 : Int32), .int (0 : Int32), .int (-1 : Int32), .int (0 : Int32), .null, .int (0 : Int32), .null, .int (0 : Int32), .int (0 : Int32), .int (0 : Int32), .int (0 : Int32), .int (0 : Int32), .int (0 : Int32), .int (0 : Int32), .int (0 : Int32), .null, .null, .int (0 : Int32), .null, .null, .int (0 : Int32), .int (0 : Int32), .null, .null])), (q7, .inl (cB, 65536, .inl (fun _ => (0 : Int32))))]) := hD
  refine lv_aload_n hx hb d_M_init_17 rfl (lv_at hl 0 rfl) ?_
  refine lv_ldc (v := (65536 : Int32)) hx hb hown (hts (.constant R_M 7 (65536 : Int32)) zin_M_7) d_M_init_18 ?_
  refine va_newa (atype := .int) (ty := .int) (N' := 65536) (a0 := (65536, .inl (fun _ => (0 : Int32)))) hx hb (hts (.arrayClass .int) zin_arrI) rfl zz.1 hP hD hS hA (fun _ => rfl) (by decide) (by decide) (by decide) (Nat.le_trans (Nat.le_of_ble_eq_true rfl) hRc) (Nat.le_trans (Nat.le_of_ble_eq_true rfl) hRz) d_M_init_20 (fun q20 cA9 H hK9 hP hD hS => ?_)
  obtain rfl := zarrI hK9
  have hP : va_P (dC, dI) zcl ([(adM, .inr (8, [.int (0 : Int32), .ref q7, .int (0 : Int32), .int (0 : Int32), .int (-1 : Int32), .int (0 : Int32), .null, .int (0 : Int32), .null, .int (0 : Int32), .int (0 : Int32), .int (0 : Int32), .int (0 : Int32), .int (0 : Int32), .int (0 : Int32), .int (0 : Int32), .int (0 : Int32), .null, .null, .int (0 : Int32), .null, .null, .int (0 : Int32), .int (0 : Int32), .null, .null])), (q7, .inl (cB, 65536, .inl (fun _ => (0 : Int32)))), (q20, .inl (cI, 65536, .inl (fun _ => (0 : Int32))))]) H := hP
  have hD : va_D A ([(adM, .inr (8, [.int (0 : Int32), .ref q7, .int (0 : Int32), .int (0 : Int32), .int (-1 : Int32), .int (0 : Int32), .null, .int (0 : Int32), .null, .int (0 : Int32), .int (0 : Int32), .int (0 : Int32), .int (0 : Int32), .int (0 : Int32), .int (0 : Int32), .int (0 : Int32), .int (0 : Int32), .null, .null, .int (0 : Int32), .null, .null, .int (0 : Int32), .int (0 : Int32), .null, .null])), (q7, .inl (cB, 65536, .inl (fun _ => (0 : Int32)))), (q20, .inl (cI, 65536, .inl (fun _ => (0 : Int32))))]) := hD
  refine W.widen (k := 2) (n := 131072) (by decide) (by decide) ?_
  refine va_putF (D := (dC, dI)) (ci := 8) (v := .ref q20) (ty := (.array .int)) (C := R_M) (T := F_M) (N := 26) hx hb hts zi_M zty_M zty_M_ok znm_M hown zz.1 hP hD hS 0 rfl rfl 6 (by decide) (hts (.fieldLink R_M 18 "WireCodecModel" "frameAt" "[I") zin_M_18) (fun _ h9 => h9) rfl hin rfl (by decide +kernel) rfl rfl (Nat.le_of_ble_eq_true rfl) d_M_init_22 (fun H locs hP hD hS => ?_)
  have hP : va_P (dC, dI) zcl ([(adM, .inr (8, [.int (0 : Int32), .ref q7, .int (0 : Int32), .int (0 : Int32), .int (-1 : Int32), .int (0 : Int32), .ref q20, .int (0 : Int32), .null, .int (0 : Int32), .int (0 : Int32), .int (0 : Int32), .int (0 : Int32), .int (0 : Int32), .int (0 : Int32), .int (0 : Int32), .int (0 : Int32), .null, .null, .int (0 : Int32), .null, .null, .int (0 : Int32), .int (0 : Int32), .null, .null])), (q7, .inl (cB, 65536, .inl (fun _ => (0 : Int32)))), (q20, .inl (cI, 65536, .inl (fun _ => (0 : Int32))))]) H := hP
  have hD : va_D A ([(adM, .inr (8, [.int (0 : Int32), .ref q7, .int (0 : Int32), .int (0 : Int32), .int (-1 : Int32), .int (0 : Int32), .ref q20, .int (0 : Int32), .null, .int (0 : Int32), .int (0 : Int32), .int (0 : Int32), .int (0 : Int32), .int (0 : Int32), .int (0 : Int32), .int (0 : Int32), .int (0 : Int32), .null, .null, .int (0 : Int32), .null, .null, .int (0 : Int32), .int (0 : Int32), .null, .null])), (q7, .inl (cB, 65536, .inl (fun _ => (0 : Int32)))), (q20, .inl (cI, 65536, .inl (fun _ => (0 : Int32))))]) := hD
  refine lv_aload_n hx hb d_M_init_25 rfl (lv_at hl 0 rfl) ?_
  refine lv_bipush (v := (12 : Int32)) hx hb d_M_init_26 (by decide) ?_
  refine va_newa (atype := .long) (ty := .long) (N' := 12) (a0 := (12, .inr (.inl (fun _ => (0 : Int64))))) hx hb (hts (.arrayClass .long) zin_arrJ) rfl zz.1 hP hD hS hA (fun _ => rfl) (by decide) (by decide) (by decide) (Nat.le_trans (Nat.le_of_ble_eq_true rfl) hRc) (Nat.le_trans (Nat.le_of_ble_eq_true rfl) hRz) d_M_init_28 (fun q28 cA9 H hK9 hP hD hS => ?_)
  obtain rfl := zarrJ hK9
  have hP : va_P (dC, dI) zcl ([(adM, .inr (8, [.int (0 : Int32), .ref q7, .int (0 : Int32), .int (0 : Int32), .int (-1 : Int32), .int (0 : Int32), .ref q20, .int (0 : Int32), .null, .int (0 : Int32), .int (0 : Int32), .int (0 : Int32), .int (0 : Int32), .int (0 : Int32), .int (0 : Int32), .int (0 : Int32), .int (0 : Int32), .null, .null, .int (0 : Int32), .null, .null, .int (0 : Int32), .int (0 : Int32), .null, .null])), (q7, .inl (cB, 65536, .inl (fun _ => (0 : Int32)))), (q20, .inl (cI, 65536, .inl (fun _ => (0 : Int32)))), (q28, .inl (cL, 12, .inr (.inl (fun _ => (0 : Int64)))))]) H := hP
  have hD : va_D A ([(adM, .inr (8, [.int (0 : Int32), .ref q7, .int (0 : Int32), .int (0 : Int32), .int (-1 : Int32), .int (0 : Int32), .ref q20, .int (0 : Int32), .null, .int (0 : Int32), .int (0 : Int32), .int (0 : Int32), .int (0 : Int32), .int (0 : Int32), .int (0 : Int32), .int (0 : Int32), .int (0 : Int32), .null, .null, .int (0 : Int32), .null, .null, .int (0 : Int32), .int (0 : Int32), .null, .null])), (q7, .inl (cB, 65536, .inl (fun _ => (0 : Int32)))), (q20, .inl (cI, 65536, .inl (fun _ => (0 : Int32)))), (q28, .inl (cL, 12, .inr (.inl (fun _ => (0 : Int64)))))]) := hD
  refine W.widen (k := 3) (n := 131084) (by decide) (by decide) ?_
  refine va_putF (D := (dC, dI)) (ci := 8) (v := .ref q28) (ty := (.array .long)) (C := R_M) (T := F_M) (N := 26) hx hb hts zi_M zty_M zty_M_ok znm_M hown zz.1 hP hD hS 0 rfl rfl 8 (by decide) (hts (.fieldLink R_M 22 "WireCodecModel" "field" "[J") zin_M_22) (fun _ h9 => h9) rfl hin rfl (by decide +kernel) rfl rfl (Nat.le_of_ble_eq_true rfl) d_M_init_30 (fun H locs hP hD hS => ?_)
  have hP : va_P (dC, dI) zcl ([(adM, .inr (8, [.int (0 : Int32), .ref q7, .int (0 : Int32), .int (0 : Int32), .int (-1 : Int32), .int (0 : Int32), .ref q20, .int (0 : Int32), .ref q28, .int (0 : Int32), .int (0 : Int32), .int (0 : Int32), .int (0 : Int32), .int (0 : Int32), .int (0 : Int32), .int (0 : Int32), .int (0 : Int32), .null, .null, .int (0 : Int32), .null, .null, .int (0 : Int32), .int (0 : Int32), .null, .null])), (q7, .inl (cB, 65536, .inl (fun _ => (0 : Int32)))), (q20, .inl (cI, 65536, .inl (fun _ => (0 : Int32)))), (q28, .inl (cL, 12, .inr (.inl (fun _ => (0 : Int64)))))]) H := hP
  have hD : va_D A ([(adM, .inr (8, [.int (0 : Int32), .ref q7, .int (0 : Int32), .int (0 : Int32), .int (-1 : Int32), .int (0 : Int32), .ref q20, .int (0 : Int32), .ref q28, .int (0 : Int32), .int (0 : Int32), .int (0 : Int32), .int (0 : Int32), .int (0 : Int32), .int (0 : Int32), .int (0 : Int32), .int (0 : Int32), .null, .null, .int (0 : Int32), .null, .null, .int (0 : Int32), .int (0 : Int32), .null, .null])), (q7, .inl (cB, 65536, .inl (fun _ => (0 : Int32)))), (q20, .inl (cI, 65536, .inl (fun _ => (0 : Int32)))), (q28, .inl (cL, 12, .inr (.inl (fun _ => (0 : Int64)))))]) := hD
  refine lv_aload_n hx hb d_M_init_33 rfl (lv_at hl 0 rfl) ?_
  refine lv_bipush (v := (12 : Int32)) hx hb d_M_init_34 (by decide) ?_
  refine va_newa (atype := .long) (ty := .long) (N' := 12) (a0 := (12, .inr (.inl (fun _ => (0 : Int64))))) hx hb (hts (.arrayClass .long) zin_arrJ) rfl zz.1 hP hD hS hA (fun _ => rfl) (by decide) (by decide) (by decide) (Nat.le_trans (Nat.le_of_ble_eq_true rfl) hRc) (Nat.le_trans (Nat.le_of_ble_eq_true rfl) hRz) d_M_init_36 (fun q36 cA9 H hK9 hP hD hS => ?_)
  obtain rfl := zarrJ hK9
  have hP : va_P (dC, dI) zcl ([(adM, .inr (8, [.int (0 : Int32), .ref q7, .int (0 : Int32), .int (0 : Int32), .int (-1 : Int32), .int (0 : Int32), .ref q20, .int (0 : Int32), .ref q28, .int (0 : Int32), .int (0 : Int32), .int (0 : Int32), .int (0 : Int32), .int (0 : Int32), .int (0 : Int32), .int (0 : Int32), .int (0 : Int32), .null, .null, .int (0 : Int32), .null, .null, .int (0 : Int32), .int (0 : Int32), .null, .null])), (q7, .inl (cB, 65536, .inl (fun _ => (0 : Int32)))), (q20, .inl (cI, 65536, .inl (fun _ => (0 : Int32)))), (q28, .inl (cL, 12, .inr (.inl (fun _ => (0 : Int64))))), (q36, .inl (cL, 12, .inr (.inl (fun _ => (0 : Int64)))))]) H := hP
  have hD : va_D A ([(adM, .inr (8, [.int (0 : Int32), .ref q7, .int (0 : Int32), .int (0 : Int32), .int (-1 : Int32), .int (0 : Int32), .ref q20, .int (0 : Int32), .ref q28, .int (0 : Int32), .int (0 : Int32), .int (0 : Int32), .int (0 : Int32), .int (0 : Int32), .int (0 : Int32), .int (0 : Int32), .int (0 : Int32), .null, .null, .int (0 : Int32), .null, .null, .int (0 : Int32), .int (0 : Int32), .null, .null])), (q7, .inl (cB, 65536, .inl (fun _ => (0 : Int32)))), (q20, .inl (cI, 65536, .inl (fun _ => (0 : Int32)))), (q28, .inl (cL, 12, .inr (.inl (fun _ => (0 : Int64))))), (q36, .inl (cL, 12, .inr (.inl (fun _ => (0 : Int64)))))]) := hD
  refine W.widen (k := 4) (n := 131096) (by decide) (by decide) ?_
  refine va_putF (D := (dC, dI)) (ci := 8) (v := .ref q36) (ty := (.array .long)) (C := R_M) (T := F_M) (N := 26) hx hb hts zi_M zty_M zty_M_ok znm_M hown zz.1 hP hD hS 0 rfl rfl 17 (by decide) (hts (.fieldLink R_M 26 "WireCodecModel" "draft" "[J") zin_M_26) (fun _ h9 => h9) rfl hin rfl (by decide +kernel) rfl rfl (Nat.le_of_ble_eq_true rfl) d_M_init_38 (fun H locs hP hD hS => ?_)
  have hP : va_P (dC, dI) zcl ([(adM, .inr (8, [.int (0 : Int32), .ref q7, .int (0 : Int32), .int (0 : Int32), .int (-1 : Int32), .int (0 : Int32), .ref q20, .int (0 : Int32), .ref q28, .int (0 : Int32), .int (0 : Int32), .int (0 : Int32), .int (0 : Int32), .int (0 : Int32), .int (0 : Int32), .int (0 : Int32), .int (0 : Int32), .ref q36, .null, .int (0 : Int32), .null, .null, .int (0 : Int32), .int (0 : Int32), .null, .null])), (q7, .inl (cB, 65536, .inl (fun _ => (0 : Int32)))), (q20, .inl (cI, 65536, .inl (fun _ => (0 : Int32)))), (q28, .inl (cL, 12, .inr (.inl (fun _ => (0 : Int64))))), (q36, .inl (cL, 12, .inr (.inl (fun _ => (0 : Int64)))))]) H := hP
  have hD : va_D A ([(adM, .inr (8, [.int (0 : Int32), .ref q7, .int (0 : Int32), .int (0 : Int32), .int (-1 : Int32), .int (0 : Int32), .ref q20, .int (0 : Int32), .ref q28, .int (0 : Int32), .int (0 : Int32), .int (0 : Int32), .int (0 : Int32), .int (0 : Int32), .int (0 : Int32), .int (0 : Int32), .int (0 : Int32), .ref q36, .null, .int (0 : Int32), .null, .null, .int (0 : Int32), .int (0 : Int32), .null, .null])), (q7, .inl (cB, 65536, .inl (fun _ => (0 : Int32)))), (q20, .inl (cI, 65536, .inl (fun _ => (0 : Int32)))), (q28, .inl (cL, 12, .inr (.inl (fun _ => (0 : Int64))))), (q36, .inl (cL, 12, .inr (.inl (fun _ => (0 : Int64)))))]) := hD
  refine lv_aload_n hx hb d_M_init_41 rfl (lv_at hl 0 rfl) ?_
  refine lv_sipush (v := (2000 : Int32)) hx hb d_M_init_42 (by decide) ?_
  refine va_newa (atype := .byte) (ty := .byte) (N' := 2000) (a0 := (2000, .inl (fun _ => (0 : Int32)))) hx hb (hts (.arrayClass .byte) zin_arrB) rfl zz.1 hP hD hS hA (fun _ => rfl) (by decide) (by decide) (by decide) (Nat.le_trans (Nat.le_of_ble_eq_true rfl) hRc) (Nat.le_trans (Nat.le_of_ble_eq_true rfl) hRz) d_M_init_45 (fun q45 cA9 H hK9 hP hD hS => ?_)
  obtain rfl := zarrB hK9
  have hP : va_P (dC, dI) zcl ([(adM, .inr (8, [.int (0 : Int32), .ref q7, .int (0 : Int32), .int (0 : Int32), .int (-1 : Int32), .int (0 : Int32), .ref q20, .int (0 : Int32), .ref q28, .int (0 : Int32), .int (0 : Int32), .int (0 : Int32), .int (0 : Int32), .int (0 : Int32), .int (0 : Int32), .int (0 : Int32), .int (0 : Int32), .ref q36, .null, .int (0 : Int32), .null, .null, .int (0 : Int32), .int (0 : Int32), .null, .null])), (q7, .inl (cB, 65536, .inl (fun _ => (0 : Int32)))), (q20, .inl (cI, 65536, .inl (fun _ => (0 : Int32)))), (q28, .inl (cL, 12, .inr (.inl (fun _ => (0 : Int64))))), (q36, .inl (cL, 12, .inr (.inl (fun _ => (0 : Int64))))), (q45, .inl (cB, 2000, .inl (fun _ => (0 : Int32))))]) H := hP
  have hD : va_D A ([(adM, .inr (8, [.int (0 : Int32), .ref q7, .int (0 : Int32), .int (0 : Int32), .int (-1 : Int32), .int (0 : Int32), .ref q20, .int (0 : Int32), .ref q28, .int (0 : Int32), .int (0 : Int32), .int (0 : Int32), .int (0 : Int32), .int (0 : Int32), .int (0 : Int32), .int (0 : Int32), .int (0 : Int32), .ref q36, .null, .int (0 : Int32), .null, .null, .int (0 : Int32), .int (0 : Int32), .null, .null])), (q7, .inl (cB, 65536, .inl (fun _ => (0 : Int32)))), (q20, .inl (cI, 65536, .inl (fun _ => (0 : Int32)))), (q28, .inl (cL, 12, .inr (.inl (fun _ => (0 : Int64))))), (q36, .inl (cL, 12, .inr (.inl (fun _ => (0 : Int64))))), (q45, .inl (cB, 2000, .inl (fun _ => (0 : Int32))))]) := hD
  refine W.widen (k := 5) (n := 133096) (by decide) (by decide) ?_
  refine va_putF (D := (dC, dI)) (ci := 8) (v := .ref q45) (ty := (.array .byte)) (C := R_M) (T := F_M) (N := 26) hx hb hts zi_M zty_M zty_M_ok znm_M hown zz.1 hP hD hS 0 rfl rfl 18 (by decide) (hts (.fieldLink R_M 29 "WireCodecModel" "given" "[B") zin_M_29) (fun _ h9 => h9) rfl hin rfl (by decide +kernel) rfl rfl (Nat.le_of_ble_eq_true rfl) d_M_init_47 (fun H locs hP hD hS => ?_)
  have hP : va_P (dC, dI) zcl ([(adM, .inr (8, [.int (0 : Int32), .ref q7, .int (0 : Int32), .int (0 : Int32), .int (-1 : Int32), .int (0 : Int32), .ref q20, .int (0 : Int32), .ref q28, .int (0 : Int32), .int (0 : Int32), .int (0 : Int32), .int (0 : Int32), .int (0 : Int32), .int (0 : Int32), .int (0 : Int32), .int (0 : Int32), .ref q36, .ref q45, .int (0 : Int32), .null, .null, .int (0 : Int32), .int (0 : Int32), .null, .null])), (q7, .inl (cB, 65536, .inl (fun _ => (0 : Int32)))), (q20, .inl (cI, 65536, .inl (fun _ => (0 : Int32)))), (q28, .inl (cL, 12, .inr (.inl (fun _ => (0 : Int64))))), (q36, .inl (cL, 12, .inr (.inl (fun _ => (0 : Int64))))), (q45, .inl (cB, 2000, .inl (fun _ => (0 : Int32))))]) H := hP
  have hD : va_D A ([(adM, .inr (8, [.int (0 : Int32), .ref q7, .int (0 : Int32), .int (0 : Int32), .int (-1 : Int32), .int (0 : Int32), .ref q20, .int (0 : Int32), .ref q28, .int (0 : Int32), .int (0 : Int32), .int (0 : Int32), .int (0 : Int32), .int (0 : Int32), .int (0 : Int32), .int (0 : Int32), .int (0 : Int32), .ref q36, .ref q45, .int (0 : Int32), .null, .null, .int (0 : Int32), .int (0 : Int32), .null, .null])), (q7, .inl (cB, 65536, .inl (fun _ => (0 : Int32)))), (q20, .inl (cI, 65536, .inl (fun _ => (0 : Int32)))), (q28, .inl (cL, 12, .inr (.inl (fun _ => (0 : Int64))))), (q36, .inl (cL, 12, .inr (.inl (fun _ => (0 : Int64))))), (q45, .inl (cB, 2000, .inl (fun _ => (0 : Int32))))]) := hD
  refine lv_aload_n hx hb d_M_init_50 rfl (lv_at hl 0 rfl) ?_
  refine lv_sipush (v := (500 : Int32)) hx hb d_M_init_51 (by decide) ?_
  refine va_newa (atype := .long) (ty := .long) (N' := 500) (a0 := (500, .inr (.inl (fun _ => (0 : Int64))))) hx hb (hts (.arrayClass .long) zin_arrJ) rfl zz.1 hP hD hS hA (fun _ => rfl) (by decide) (by decide) (by decide) (Nat.le_trans (Nat.le_of_ble_eq_true rfl) hRc) (Nat.le_trans (Nat.le_of_ble_eq_true rfl) hRz) d_M_init_54 (fun q54 cA9 H hK9 hP hD hS => ?_)
  obtain rfl := zarrJ hK9
  have hP : va_P (dC, dI) zcl ([(adM, .inr (8, [.int (0 : Int32), .ref q7, .int (0 : Int32), .int (0 : Int32), .int (-1 : Int32), .int (0 : Int32), .ref q20, .int (0 : Int32), .ref q28, .int (0 : Int32), .int (0 : Int32), .int (0 : Int32), .int (0 : Int32), .int (0 : Int32), .int (0 : Int32), .int (0 : Int32), .int (0 : Int32), .ref q36, .ref q45, .int (0 : Int32), .null, .null, .int (0 : Int32), .int (0 : Int32), .null, .null])), (q7, .inl (cB, 65536, .inl (fun _ => (0 : Int32)))), (q20, .inl (cI, 65536, .inl (fun _ => (0 : Int32)))), (q28, .inl (cL, 12, .inr (.inl (fun _ => (0 : Int64))))), (q36, .inl (cL, 12, .inr (.inl (fun _ => (0 : Int64))))), (q45, .inl (cB, 2000, .inl (fun _ => (0 : Int32)))), (q54, .inl (cL, 500, .inr (.inl (fun _ => (0 : Int64)))))]) H := hP
  have hD : va_D A ([(adM, .inr (8, [.int (0 : Int32), .ref q7, .int (0 : Int32), .int (0 : Int32), .int (-1 : Int32), .int (0 : Int32), .ref q20, .int (0 : Int32), .ref q28, .int (0 : Int32), .int (0 : Int32), .int (0 : Int32), .int (0 : Int32), .int (0 : Int32), .int (0 : Int32), .int (0 : Int32), .int (0 : Int32), .ref q36, .ref q45, .int (0 : Int32), .null, .null, .int (0 : Int32), .int (0 : Int32), .null, .null])), (q7, .inl (cB, 65536, .inl (fun _ => (0 : Int32)))), (q20, .inl (cI, 65536, .inl (fun _ => (0 : Int32)))), (q28, .inl (cL, 12, .inr (.inl (fun _ => (0 : Int64))))), (q36, .inl (cL, 12, .inr (.inl (fun _ => (0 : Int64))))), (q45, .inl (cB, 2000, .inl (fun _ => (0 : Int32)))), (q54, .inl (cL, 500, .inr (.inl (fun _ => (0 : Int64)))))]) := hD
  refine W.widen (k := 6) (n := 133596) (by decide) (by decide) ?_
  refine va_putF (D := (dC, dI)) (ci := 8) (v := .ref q54) (ty := (.array .long)) (C := R_M) (T := F_M) (N := 26) hx hb hts zi_M zty_M zty_M_ok znm_M hown zz.1 hP hD hS 0 rfl rfl 20 (by decide) (hts (.fieldLink R_M 32 "WireCodecModel" "low" "[J") zin_M_32) (fun _ h9 => h9) rfl hin rfl (by decide +kernel) rfl rfl (Nat.le_of_ble_eq_true rfl) d_M_init_56 (fun H locs hP hD hS => ?_)
  have hP : va_P (dC, dI) zcl ([(adM, .inr (8, [.int (0 : Int32), .ref q7, .int (0 : Int32), .int (0 : Int32), .int (-1 : Int32), .int (0 : Int32), .ref q20, .int (0 : Int32), .ref q28, .int (0 : Int32), .int (0 : Int32), .int (0 : Int32), .int (0 : Int32), .int (0 : Int32), .int (0 : Int32), .int (0 : Int32), .int (0 : Int32), .ref q36, .ref q45, .int (0 : Int32), .ref q54, .null, .int (0 : Int32), .int (0 : Int32), .null, .null])), (q7, .inl (cB, 65536, .inl (fun _ => (0 : Int32)))), (q20, .inl (cI, 65536, .inl (fun _ => (0 : Int32)))), (q28, .inl (cL, 12, .inr (.inl (fun _ => (0 : Int64))))), (q36, .inl (cL, 12, .inr (.inl (fun _ => (0 : Int64))))), (q45, .inl (cB, 2000, .inl (fun _ => (0 : Int32)))), (q54, .inl (cL, 500, .inr (.inl (fun _ => (0 : Int64)))))]) H := hP
  have hD : va_D A ([(adM, .inr (8, [.int (0 : Int32), .ref q7, .int (0 : Int32), .int (0 : Int32), .int (-1 : Int32), .int (0 : Int32), .ref q20, .int (0 : Int32), .ref q28, .int (0 : Int32), .int (0 : Int32), .int (0 : Int32), .int (0 : Int32), .int (0 : Int32), .int (0 : Int32), .int (0 : Int32), .int (0 : Int32), .ref q36, .ref q45, .int (0 : Int32), .ref q54, .null, .int (0 : Int32), .int (0 : Int32), .null, .null])), (q7, .inl (cB, 65536, .inl (fun _ => (0 : Int32)))), (q20, .inl (cI, 65536, .inl (fun _ => (0 : Int32)))), (q28, .inl (cL, 12, .inr (.inl (fun _ => (0 : Int64))))), (q36, .inl (cL, 12, .inr (.inl (fun _ => (0 : Int64))))), (q45, .inl (cB, 2000, .inl (fun _ => (0 : Int32)))), (q54, .inl (cL, 500, .inr (.inl (fun _ => (0 : Int64)))))]) := hD
  refine lv_aload_n hx hb d_M_init_59 rfl (lv_at hl 0 rfl) ?_
  refine lv_sipush (v := (500 : Int32)) hx hb d_M_init_60 (by decide) ?_
  refine va_newa (atype := .long) (ty := .long) (N' := 500) (a0 := (500, .inr (.inl (fun _ => (0 : Int64))))) hx hb (hts (.arrayClass .long) zin_arrJ) rfl zz.1 hP hD hS hA (fun _ => rfl) (by decide) (by decide) (by decide) (Nat.le_trans (Nat.le_of_ble_eq_true rfl) hRc) (Nat.le_trans (Nat.le_of_ble_eq_true rfl) hRz) d_M_init_63 (fun q63 cA9 H hK9 hP hD hS => ?_)
  obtain rfl := zarrJ hK9
  have hP : va_P (dC, dI) zcl ([(adM, .inr (8, [.int (0 : Int32), .ref q7, .int (0 : Int32), .int (0 : Int32), .int (-1 : Int32), .int (0 : Int32), .ref q20, .int (0 : Int32), .ref q28, .int (0 : Int32), .int (0 : Int32), .int (0 : Int32), .int (0 : Int32), .int (0 : Int32), .int (0 : Int32), .int (0 : Int32), .int (0 : Int32), .ref q36, .ref q45, .int (0 : Int32), .ref q54, .null, .int (0 : Int32), .int (0 : Int32), .null, .null])), (q7, .inl (cB, 65536, .inl (fun _ => (0 : Int32)))), (q20, .inl (cI, 65536, .inl (fun _ => (0 : Int32)))), (q28, .inl (cL, 12, .inr (.inl (fun _ => (0 : Int64))))), (q36, .inl (cL, 12, .inr (.inl (fun _ => (0 : Int64))))), (q45, .inl (cB, 2000, .inl (fun _ => (0 : Int32)))), (q54, .inl (cL, 500, .inr (.inl (fun _ => (0 : Int64))))), (q63, .inl (cL, 500, .inr (.inl (fun _ => (0 : Int64)))))]) H := hP
  have hD : va_D A ([(adM, .inr (8, [.int (0 : Int32), .ref q7, .int (0 : Int32), .int (0 : Int32), .int (-1 : Int32), .int (0 : Int32), .ref q20, .int (0 : Int32), .ref q28, .int (0 : Int32), .int (0 : Int32), .int (0 : Int32), .int (0 : Int32), .int (0 : Int32), .int (0 : Int32), .int (0 : Int32), .int (0 : Int32), .ref q36, .ref q45, .int (0 : Int32), .ref q54, .null, .int (0 : Int32), .int (0 : Int32), .null, .null])), (q7, .inl (cB, 65536, .inl (fun _ => (0 : Int32)))), (q20, .inl (cI, 65536, .inl (fun _ => (0 : Int32)))), (q28, .inl (cL, 12, .inr (.inl (fun _ => (0 : Int64))))), (q36, .inl (cL, 12, .inr (.inl (fun _ => (0 : Int64))))), (q45, .inl (cB, 2000, .inl (fun _ => (0 : Int32)))), (q54, .inl (cL, 500, .inr (.inl (fun _ => (0 : Int64))))), (q63, .inl (cL, 500, .inr (.inl (fun _ => (0 : Int64)))))]) := hD
  refine W.widen (k := 7) (n := 134096) (by decide) (by decide) ?_
  refine va_putF (D := (dC, dI)) (ci := 8) (v := .ref q63) (ty := (.array .long)) (C := R_M) (T := F_M) (N := 26) hx hb hts zi_M zty_M zty_M_ok znm_M hown zz.1 hP hD hS 0 rfl rfl 21 (by decide) (hts (.fieldLink R_M 35 "WireCodecModel" "high" "[J") zin_M_35) (fun _ h9 => h9) rfl hin rfl (by decide +kernel) rfl rfl (Nat.le_of_ble_eq_true rfl) d_M_init_65 (fun H locs hP hD hS => ?_)
  have hP : va_P (dC, dI) zcl ([(adM, .inr (8, [.int (0 : Int32), .ref q7, .int (0 : Int32), .int (0 : Int32), .int (-1 : Int32), .int (0 : Int32), .ref q20, .int (0 : Int32), .ref q28, .int (0 : Int32), .int (0 : Int32), .int (0 : Int32), .int (0 : Int32), .int (0 : Int32), .int (0 : Int32), .int (0 : Int32), .int (0 : Int32), .ref q36, .ref q45, .int (0 : Int32), .ref q54, .ref q63, .int (0 : Int32), .int (0 : Int32), .null, .null])), (q7, .inl (cB, 65536, .inl (fun _ => (0 : Int32)))), (q20, .inl (cI, 65536, .inl (fun _ => (0 : Int32)))), (q28, .inl (cL, 12, .inr (.inl (fun _ => (0 : Int64))))), (q36, .inl (cL, 12, .inr (.inl (fun _ => (0 : Int64))))), (q45, .inl (cB, 2000, .inl (fun _ => (0 : Int32)))), (q54, .inl (cL, 500, .inr (.inl (fun _ => (0 : Int64))))), (q63, .inl (cL, 500, .inr (.inl (fun _ => (0 : Int64)))))]) H := hP
  have hD : va_D A ([(adM, .inr (8, [.int (0 : Int32), .ref q7, .int (0 : Int32), .int (0 : Int32), .int (-1 : Int32), .int (0 : Int32), .ref q20, .int (0 : Int32), .ref q28, .int (0 : Int32), .int (0 : Int32), .int (0 : Int32), .int (0 : Int32), .int (0 : Int32), .int (0 : Int32), .int (0 : Int32), .int (0 : Int32), .ref q36, .ref q45, .int (0 : Int32), .ref q54, .ref q63, .int (0 : Int32), .int (0 : Int32), .null, .null])), (q7, .inl (cB, 65536, .inl (fun _ => (0 : Int32)))), (q20, .inl (cI, 65536, .inl (fun _ => (0 : Int32)))), (q28, .inl (cL, 12, .inr (.inl (fun _ => (0 : Int64))))), (q36, .inl (cL, 12, .inr (.inl (fun _ => (0 : Int64))))), (q45, .inl (cB, 2000, .inl (fun _ => (0 : Int32)))), (q54, .inl (cL, 500, .inr (.inl (fun _ => (0 : Int64))))), (q63, .inl (cL, 500, .inr (.inl (fun _ => (0 : Int64)))))]) := hD
  refine lv_aload_n hx hb d_M_init_68 rfl (lv_at hl 0 rfl) ?_
  refine lv_ldc (v := (49152 : Int32)) hx hb hown (hts (.constant R_M 38 (49152 : Int32)) zin_M_38) d_M_init_69 ?_
  refine va_newa (atype := .int) (ty := .int) (N' := 49152) (a0 := (49152, .inl (fun _ => (0 : Int32)))) hx hb (hts (.arrayClass .int) zin_arrI) rfl zz.1 hP hD hS hA (fun _ => rfl) (by decide) (by decide) (by decide) (Nat.le_trans (Nat.le_of_ble_eq_true rfl) hRc) (Nat.le_trans (Nat.le_of_ble_eq_true rfl) hRz) d_M_init_71 (fun q71 cA9 H hK9 hP hD hS => ?_)
  obtain rfl := zarrI hK9
  have hP : va_P (dC, dI) zcl ([(adM, .inr (8, [.int (0 : Int32), .ref q7, .int (0 : Int32), .int (0 : Int32), .int (-1 : Int32), .int (0 : Int32), .ref q20, .int (0 : Int32), .ref q28, .int (0 : Int32), .int (0 : Int32), .int (0 : Int32), .int (0 : Int32), .int (0 : Int32), .int (0 : Int32), .int (0 : Int32), .int (0 : Int32), .ref q36, .ref q45, .int (0 : Int32), .ref q54, .ref q63, .int (0 : Int32), .int (0 : Int32), .null, .null])), (q7, .inl (cB, 65536, .inl (fun _ => (0 : Int32)))), (q20, .inl (cI, 65536, .inl (fun _ => (0 : Int32)))), (q28, .inl (cL, 12, .inr (.inl (fun _ => (0 : Int64))))), (q36, .inl (cL, 12, .inr (.inl (fun _ => (0 : Int64))))), (q45, .inl (cB, 2000, .inl (fun _ => (0 : Int32)))), (q54, .inl (cL, 500, .inr (.inl (fun _ => (0 : Int64))))), (q63, .inl (cL, 500, .inr (.inl (fun _ => (0 : Int64))))), (q71, .inl (cI, 49152, .inl (fun _ => (0 : Int32))))]) H := hP
  have hD : va_D A ([(adM, .inr (8, [.int (0 : Int32), .ref q7, .int (0 : Int32), .int (0 : Int32), .int (-1 : Int32), .int (0 : Int32), .ref q20, .int (0 : Int32), .ref q28, .int (0 : Int32), .int (0 : Int32), .int (0 : Int32), .int (0 : Int32), .int (0 : Int32), .int (0 : Int32), .int (0 : Int32), .int (0 : Int32), .ref q36, .ref q45, .int (0 : Int32), .ref q54, .ref q63, .int (0 : Int32), .int (0 : Int32), .null, .null])), (q7, .inl (cB, 65536, .inl (fun _ => (0 : Int32)))), (q20, .inl (cI, 65536, .inl (fun _ => (0 : Int32)))), (q28, .inl (cL, 12, .inr (.inl (fun _ => (0 : Int64))))), (q36, .inl (cL, 12, .inr (.inl (fun _ => (0 : Int64))))), (q45, .inl (cB, 2000, .inl (fun _ => (0 : Int32)))), (q54, .inl (cL, 500, .inr (.inl (fun _ => (0 : Int64))))), (q63, .inl (cL, 500, .inr (.inl (fun _ => (0 : Int64))))), (q71, .inl (cI, 49152, .inl (fun _ => (0 : Int32))))]) := hD
  refine W.widen (k := 8) (n := 183248) (by decide) (by decide) ?_
  refine va_putF (D := (dC, dI)) (ci := 8) (v := .ref q71) (ty := (.array .int)) (C := R_M) (T := F_M) (N := 26) hx hb hts zi_M zty_M zty_M_ok znm_M hown zz.1 hP hD hS 0 rfl rfl 24 (by decide) (hts (.fieldLink R_M 39 "WireCodecModel" "packet" "[I") zin_M_39) (fun _ h9 => h9) rfl hin rfl (by decide +kernel) rfl rfl (Nat.le_of_ble_eq_true rfl) d_M_init_73 (fun H locs hP hD hS => ?_)
  have hP : va_P (dC, dI) zcl ([(adM, .inr (8, [.int (0 : Int32), .ref q7, .int (0 : Int32), .int (0 : Int32), .int (-1 : Int32), .int (0 : Int32), .ref q20, .int (0 : Int32), .ref q28, .int (0 : Int32), .int (0 : Int32), .int (0 : Int32), .int (0 : Int32), .int (0 : Int32), .int (0 : Int32), .int (0 : Int32), .int (0 : Int32), .ref q36, .ref q45, .int (0 : Int32), .ref q54, .ref q63, .int (0 : Int32), .int (0 : Int32), .ref q71, .null])), (q7, .inl (cB, 65536, .inl (fun _ => (0 : Int32)))), (q20, .inl (cI, 65536, .inl (fun _ => (0 : Int32)))), (q28, .inl (cL, 12, .inr (.inl (fun _ => (0 : Int64))))), (q36, .inl (cL, 12, .inr (.inl (fun _ => (0 : Int64))))), (q45, .inl (cB, 2000, .inl (fun _ => (0 : Int32)))), (q54, .inl (cL, 500, .inr (.inl (fun _ => (0 : Int64))))), (q63, .inl (cL, 500, .inr (.inl (fun _ => (0 : Int64))))), (q71, .inl (cI, 49152, .inl (fun _ => (0 : Int32))))]) H := hP
  have hD : va_D A ([(adM, .inr (8, [.int (0 : Int32), .ref q7, .int (0 : Int32), .int (0 : Int32), .int (-1 : Int32), .int (0 : Int32), .ref q20, .int (0 : Int32), .ref q28, .int (0 : Int32), .int (0 : Int32), .int (0 : Int32), .int (0 : Int32), .int (0 : Int32), .int (0 : Int32), .int (0 : Int32), .int (0 : Int32), .ref q36, .ref q45, .int (0 : Int32), .ref q54, .ref q63, .int (0 : Int32), .int (0 : Int32), .ref q71, .null])), (q7, .inl (cB, 65536, .inl (fun _ => (0 : Int32)))), (q20, .inl (cI, 65536, .inl (fun _ => (0 : Int32)))), (q28, .inl (cL, 12, .inr (.inl (fun _ => (0 : Int64))))), (q36, .inl (cL, 12, .inr (.inl (fun _ => (0 : Int64))))), (q45, .inl (cB, 2000, .inl (fun _ => (0 : Int32)))), (q54, .inl (cL, 500, .inr (.inl (fun _ => (0 : Int64))))), (q63, .inl (cL, 500, .inr (.inl (fun _ => (0 : Int64))))), (q71, .inl (cI, 49152, .inl (fun _ => (0 : Int32))))]) := hD
  refine lv_aload_n hx hb d_M_init_76 rfl (lv_at hl 0 rfl) ?_
  refine lv_bipush (v := (17 : Int32)) hx hb d_M_init_77 (by decide) ?_
  refine va_newa (atype := .long) (ty := .long) (N' := 17) (a0 := (17, .inr (.inl (fun _ => (0 : Int64))))) hx hb (hts (.arrayClass .long) zin_arrJ) rfl zz.1 hP hD hS hA (fun _ => rfl) (by decide) (by decide) (by decide) (Nat.le_trans (Nat.le_of_ble_eq_true rfl) hRc) (Nat.le_trans (Nat.le_of_ble_eq_true rfl) hRz) d_M_init_79 (fun q79 cA9 H hK9 hP hD hS => ?_)
  obtain rfl := zarrJ hK9
  have hP : va_P (dC, dI) zcl ([(adM, .inr (8, [.int (0 : Int32), .ref q7, .int (0 : Int32), .int (0 : Int32), .int (-1 : Int32), .int (0 : Int32), .ref q20, .int (0 : Int32), .ref q28, .int (0 : Int32), .int (0 : Int32), .int (0 : Int32), .int (0 : Int32), .int (0 : Int32), .int (0 : Int32), .int (0 : Int32), .int (0 : Int32), .ref q36, .ref q45, .int (0 : Int32), .ref q54, .ref q63, .int (0 : Int32), .int (0 : Int32), .ref q71, .null])), (q7, .inl (cB, 65536, .inl (fun _ => (0 : Int32)))), (q20, .inl (cI, 65536, .inl (fun _ => (0 : Int32)))), (q28, .inl (cL, 12, .inr (.inl (fun _ => (0 : Int64))))), (q36, .inl (cL, 12, .inr (.inl (fun _ => (0 : Int64))))), (q45, .inl (cB, 2000, .inl (fun _ => (0 : Int32)))), (q54, .inl (cL, 500, .inr (.inl (fun _ => (0 : Int64))))), (q63, .inl (cL, 500, .inr (.inl (fun _ => (0 : Int64))))), (q71, .inl (cI, 49152, .inl (fun _ => (0 : Int32)))), (q79, .inl (cL, 17, .inr (.inl (fun _ => (0 : Int64)))))]) H := hP
  have hD : va_D A ([(adM, .inr (8, [.int (0 : Int32), .ref q7, .int (0 : Int32), .int (0 : Int32), .int (-1 : Int32), .int (0 : Int32), .ref q20, .int (0 : Int32), .ref q28, .int (0 : Int32), .int (0 : Int32), .int (0 : Int32), .int (0 : Int32), .int (0 : Int32), .int (0 : Int32), .int (0 : Int32), .int (0 : Int32), .ref q36, .ref q45, .int (0 : Int32), .ref q54, .ref q63, .int (0 : Int32), .int (0 : Int32), .ref q71, .null])), (q7, .inl (cB, 65536, .inl (fun _ => (0 : Int32)))), (q20, .inl (cI, 65536, .inl (fun _ => (0 : Int32)))), (q28, .inl (cL, 12, .inr (.inl (fun _ => (0 : Int64))))), (q36, .inl (cL, 12, .inr (.inl (fun _ => (0 : Int64))))), (q45, .inl (cB, 2000, .inl (fun _ => (0 : Int32)))), (q54, .inl (cL, 500, .inr (.inl (fun _ => (0 : Int64))))), (q63, .inl (cL, 500, .inr (.inl (fun _ => (0 : Int64))))), (q71, .inl (cI, 49152, .inl (fun _ => (0 : Int32)))), (q79, .inl (cL, 17, .inr (.inl (fun _ => (0 : Int64)))))]) := hD
  refine W.widen (k := 9) (n := 183265) (by decide) (by decide) ?_
  refine va_putF (D := (dC, dI)) (ci := 8) (v := .ref q79) (ty := (.array .long)) (C := R_M) (T := F_M) (N := 26) hx hb hts zi_M zty_M zty_M_ok znm_M hown zz.1 hP hD hS 0 rfl rfl 25 (by decide) (hts (.fieldLink R_M 42 "WireCodecModel" "known" "[J") zin_M_42) (fun _ h9 => h9) rfl hin rfl (by decide +kernel) rfl rfl (Nat.le_of_ble_eq_true rfl) d_M_init_81 (fun H locs hP hD hS => ?_)
  have hP : va_P (dC, dI) zcl ([(adM, .inr (8, [.int (0 : Int32), .ref q7, .int (0 : Int32), .int (0 : Int32), .int (-1 : Int32), .int (0 : Int32), .ref q20, .int (0 : Int32), .ref q28, .int (0 : Int32), .int (0 : Int32), .int (0 : Int32), .int (0 : Int32), .int (0 : Int32), .int (0 : Int32), .int (0 : Int32), .int (0 : Int32), .ref q36, .ref q45, .int (0 : Int32), .ref q54, .ref q63, .int (0 : Int32), .int (0 : Int32), .ref q71, .ref q79])), (q7, .inl (cB, 65536, .inl (fun _ => (0 : Int32)))), (q20, .inl (cI, 65536, .inl (fun _ => (0 : Int32)))), (q28, .inl (cL, 12, .inr (.inl (fun _ => (0 : Int64))))), (q36, .inl (cL, 12, .inr (.inl (fun _ => (0 : Int64))))), (q45, .inl (cB, 2000, .inl (fun _ => (0 : Int32)))), (q54, .inl (cL, 500, .inr (.inl (fun _ => (0 : Int64))))), (q63, .inl (cL, 500, .inr (.inl (fun _ => (0 : Int64))))), (q71, .inl (cI, 49152, .inl (fun _ => (0 : Int32)))), (q79, .inl (cL, 17, .inr (.inl (fun _ => (0 : Int64)))))]) H := hP
  have hD : va_D A ([(adM, .inr (8, [.int (0 : Int32), .ref q7, .int (0 : Int32), .int (0 : Int32), .int (-1 : Int32), .int (0 : Int32), .ref q20, .int (0 : Int32), .ref q28, .int (0 : Int32), .int (0 : Int32), .int (0 : Int32), .int (0 : Int32), .int (0 : Int32), .int (0 : Int32), .int (0 : Int32), .int (0 : Int32), .ref q36, .ref q45, .int (0 : Int32), .ref q54, .ref q63, .int (0 : Int32), .int (0 : Int32), .ref q71, .ref q79])), (q7, .inl (cB, 65536, .inl (fun _ => (0 : Int32)))), (q20, .inl (cI, 65536, .inl (fun _ => (0 : Int32)))), (q28, .inl (cL, 12, .inr (.inl (fun _ => (0 : Int64))))), (q36, .inl (cL, 12, .inr (.inl (fun _ => (0 : Int64))))), (q45, .inl (cB, 2000, .inl (fun _ => (0 : Int32)))), (q54, .inl (cL, 500, .inr (.inl (fun _ => (0 : Int64))))), (q63, .inl (cL, 500, .inr (.inl (fun _ => (0 : Int64))))), (q71, .inl (cI, 49152, .inl (fun _ => (0 : Int32)))), (q79, .inl (cL, 17, .inr (.inl (fun _ => (0 : Int64)))))]) := hD
  refine lv_aload_n hx hb d_M_init_84 rfl (lv_at hl 0 rfl) ?_
  obtain ⟨a_85, hx_85, hG⟩ := zb hG
  have hr_85 := zrunV (p := p) (e := e) (below := below) (meth := meth) (As := []) (rest := []) (st0 := [.ref adM]) (cells := 9) (slots := 183265) X zz hP hD hS hA [0, 1, 2, 3, 4, 5, 6, 7, 8, 9] (by decide) rfl (c_M_forget l dC dI cB cI cL H.size adM q7 q20 q28 q36 q45 q54 q63 q71 q79 N ((0 : Int32), (fun _ => (0 : Int32)), (0 : Int32), (0 : Int32), (-1 : Int32), (0 : Int32), (fun _ => (0 : Int32)), (0 : Int32), (fun _ => (0 : Int64)), (0 : Int32), (0 : Int32), (0 : Int32), (0 : Int32), (0 : Int32), (0 : Int32), (0 : Int32), (0 : Int32), (fun _ => (0 : Int64)), (fun _ => (0 : Int32)), (0 : Int32), (fun _ => (0 : Int64)), (fun _ => (0 : Int64)), (0 : Int32), (0 : Int32), (fun _ => (0 : Int32)), (fun _ => (0 : Int64))) _ hx_85) zy_M_forget zv_M_forget (hts (.methodLink R_M 45 y_M_forget) zin_M_45) hl rfl rfl d_M_init_85 (lv_room (Nat.le_of_ble_eq_true rfl)) rfl rfl ⟨Nat.le_trans (Nat.le_of_ble_eq_true rfl) hRf, Nat.le_trans (Nat.le_of_ble_eq_true rfl) hRl⟩ ⟨(Nat.le_trans (Nat.le_of_ble_eq_true rfl) hRc), (Nat.le_trans (Nat.le_of_ble_eq_true rfl) hRz)⟩ 0 8 rfl rfl
  refine zcallv (wr := ([] : va_W)) hr_85 hP hD hS hA [0, 1, 2, 3, 4, 5, 6, 7, 8, 9] [] rfl rfl (by decide) (by decide) (fun u_85 H locs hw_85 hP hD hS => ?_)
  obtain ⟨sM_85, rfl⟩ : ∃ z, z = u_85 := ⟨_, rfl⟩
  subst hw_85
  have hP : va_P (dC, dI) zcl (zwM adM q7 q20 q28 q36 q45 q54 q63 q71 q79 cB cI cL sM_85) H := hP
  have hD : va_D A (zwM adM q7 q20 q28 q36 q45 q54 q63 q71 q79 cB cI cL sM_85) := hD
  have hG : g_M_init_c85 sM_85 = some a := hG
  unfold g_M_init_c85 at hG
  exact W.vret hx hb hr (fun t9 ht9 hW9 => ⟨⟨(sM_85, q7, q20, q28, q36, q45, q54, q63, q71, q79), rfl, Option.some.inj hG, by rw [ht9]; exact hP, hD⟩, hS.F ht9⟩) hS.2.2 d_M_init_88
set_option maxRecDepth 100000 in
set_option maxHeartbeats 4000000 in
theorem c_M_init (l : Launch) (dC : Nat → ClassId) (dI : Nat → Nat → Nat) (cB cI cL : ClassId) (sz : Nat) (adM : Nat) (N : Nat) (a : zM) (hG : g_M_init N = some a) : Met l y_M_init (zw y_M_init b_M_init 1 none) ({ frames := 3, cells := 9, slots := 183265, locals := 61 }) (va_Pc [.ref adM] (zpre dC dI cB cI cL sz ([(adM, .inr (8, [.int (0 : Int32), .null, .int (0 : Int32), .int (0 : Int32), .int (0 : Int32), .int (0 : Int32), .null, .int (0 : Int32), .null, .int (0 : Int32), .int (0 : Int32), .int (0 : Int32), .int (0 : Int32), .int (0 : Int32), .int (0 : Int32), .int (0 : Int32), .int (0 : Int32), .null, .null, .int (0 : Int32), .null, .null, .int (0 : Int32), .int (0 : Int32), .null, .null]))]))) (q_M_init dC dI cB cI cL (va_A ([(adM, .inr (8, [.int (0 : Int32), .null, .int (0 : Int32), .int (0 : Int32), .int (0 : Int32), .int (0 : Int32), .null, .int (0 : Int32), .null, .int (0 : Int32), .int (0 : Int32), .int (0 : Int32), .int (0 : Int32), .int (0 : Int32), .int (0 : Int32), .int (0 : Int32), .int (0 : Int32), .null, .null, .int (0 : Int32), .null, .null, .int (0 : Int32), .int (0 : Int32), .null, .null]))]) sz) adM a) 9 183265 (va_A ([(adM, .inr (8, [.int (0 : Int32), .null, .int (0 : Int32), .int (0 : Int32), .int (0 : Int32), .int (0 : Int32), .null, .int (0 : Int32), .null, .int (0 : Int32), .int (0 : Int32), .int (0 : Int32), .int (0 : Int32), .int (0 : Int32), .int (0 : Int32), .int (0 : Int32), .int (0 : Int32), .null, .null, .int (0 : Int32), .null, .null, .int (0 : Int32), .int (0 : Int32), .null, .null]))]) sz) := by
  refine Met.ofW (cc := b_M_init) (maxL := 1) (ret := none) (by decide) rfl ?_
  intro p e s m args below meth c s₁ B hml hv
  obtain ⟨rfl, hsz, hP, zz, hD0⟩ := hv
  subst hsz
  have X := zx_of (F := 3) (L := 61) B hml (Nat.le_refl _) (Nat.le_refl _)
  have hD := hD0.self (sz := s.heap.size)
  have hA : ∀ q : Nat, s.heap.size ≤ q → va_A ([(adM, .inr (8, [.int (0 : Int32), .null, .int (0 : Int32), .int (0 : Int32), .int (0 : Int32), .int (0 : Int32), .null, .int (0 : Int32), .null, .int (0 : Int32), .int (0 : Int32), .int (0 : Int32), .int (0 : Int32), .int (0 : Int32), .int (0 : Int32), .int (0 : Int32), .int (0 : Int32), .null, .null, .int (0 : Int32), .null, .null, .int (0 : Int32), .int (0 : Int32), .null, .null]))]) s.heap.size q := fun q h => Or.inr h
  have hl := lv_entry ([.ref adM]) (n := 1) (Nat.le_of_ble_eq_true rfl)
  rw [lg_entry_eq]
  generalize (lg_sl ([.ref adM]) ++ List.replicate (1 - (lg_sl ([.ref adM])).length) Slot.unset).toArray = ls at hl ⊢
  have hin : meth.name = "<init>" := (name_of_methodNamed B.named B.method).1
  exact k_M_init_0 X hA zz hin (Nat.le_refl _) (Nat.le_refl _) N a hG adM _ _ hP hD va_S.rf ls hl

set_option maxHeartbeats 4000000 in
set_option maxRecDepth 100000 in
theorem ct_X0_clampAt (l : Launch) {w : mc_w} {I : Nat → Nat → Int32} {R : Nat → Nat → Option Nat} {v0 : Nat} {v1 : Int32} {v2 : Int32} (kv0 : mc_k v0 = 0) {Iz : Nat → Nat → Int32} (h : mi_X0_clampAt I v0 v1 v2 = some Iz) : Met l yX0_clampAt (Cond.code yX0_clampAt cX0_clampAt 3 none :: mc_big) ({ frames := 0, cells := 0, slots := 0, locals := 0 } : Room) (va_Pc [.ref (w.2.2.1 v0), .int v1, .int v2] (mc_B mc_k 152 w I R)) (mc_Q none (mc_B mc_k 152 w Iz R) (mc_A 152 w)) 0 0 (mc_A 152 w) := by
  refine Met.ofW (cc := cX0_clampAt) (maxL := 3) (ret := none) (by decide) rfl ?_
  intro p e s m args below meth c s₁ B hml hv
  obtain ⟨rfl, hP, K⟩ := hv
  have hown : s.vm.findClass RX0 = some m.cls := findClass_of_methodNamed B.named
  have C : CallFix p m c cX0_clampAt 3 s _ mc_big RX0 := ⟨B.exec, B.bytes, hml, hown, fun w hw => atoms_spec B.pre w (List.mem_cons_of_mem _ hw)⟩
  have hx := C.1
  have hb := C.2.1
  have hC := And.intro C.1 C.2.1
  have hr := B.returns
  have hlk := B.notSynchronized
  have hS : va_S (mc_A 152 w) s.heap s.heap [] := va_S.rf
  have hl := lv_entry ([.ref (w.2.2.1 v0), .int v1, .int v2]) (n := 3) (Nat.le_of_ble_eq_true rfl)
  rw [lg_entry_eq]
  generalize (lg_sl ([.ref (w.2.2.1 v0), .int v1, .int v2]) ++ List.replicate (3 - (lg_sl ([.ref (w.2.2.1 v0), .int v1, .int v2])).length) Slot.unset).toArray = ls at hl ⊢
  have hl : lv_has ls 3 [(0, .ref (w.2.2.1 v0)), (1, .int v1), (2, .int v2)] := hl
  unfold mi_X0_clampAt at h
  refine lv_aload_n hx hb dX0_clampAt_0 rfl (lv_at hl 0 rfl) ?_
  refine lv_iload_n hx hb dX0_clampAt_1 rfl (lv_at hl 1 rfl) ?_
  obtain ⟨I1, eI1, h⟩ := mc_bn_e h
  refine mp_X0_9 C K hP hS kv0 eI1 dX0_clampAt_2 (fun H locs hP hS => ?_)
  refine lv_aload_n hx hb dX0_clampAt_5 rfl (lv_at hl 0 rfl) ?_
  refine lv_iload_n hx hb dX0_clampAt_6 rfl (lv_at hl 2 rfl) ?_
  obtain ⟨g3, h⟩ := mc_gd h
  obtain ⟨I2, eI2, h⟩ := mc_bn_e h
  refine mp_X0_15 C K hP hS kv0 eI2 (mc_nz g3) dX0_clampAt_7 (fun H locs hP hS => ?_)
  refine lv_aload_n hx hb dX0_clampAt_10 rfl (lv_at hl 0 rfl) ?_
  refine lv_iconst (v := 0) hx hb dX0_clampAt_11 (by decide) ?_
  obtain ⟨I4, eI4, h⟩ := mc_bn_e h
  refine mp_X0_19 C K hP hS kv0 eI4 dX0_clampAt_12 (fun H locs hP hS => ?_)
  refine lv_aload_n hx hb dX0_clampAt_15 rfl (lv_at hl 0 rfl) ?_
  refine lv_iconst (v := 0) hx hb dX0_clampAt_16 (by decide) ?_
  obtain ⟨I5, eI5, h⟩ := mc_bn_e h
  refine mp_X0_22 C K hP hS kv0 eI5 ⟨by decide, by decide⟩ dX0_clampAt_17 (fun H locs hP hS => ?_)
  refine lv_aload_n hx hb dX0_clampAt_20 rfl (lv_at hl 0 rfl) ?_
  refine lv_iconst (v := 0) hx hb dX0_clampAt_21 (by decide) ?_
  obtain ⟨I6, eI6, h⟩ := mc_bn_e h
  refine mp_X0_25 C K hP hS kv0 eI6 ⟨by decide, by decide⟩ dX0_clampAt_22 (fun H locs hP hS => ?_)
  cases h
  exact mt_v hC hr hlk K hP hS dX0_clampAt_25
set_option maxHeartbeats 4000000 in
set_option maxRecDepth 100000 in
theorem ct_X0_copyFrom (l : Launch) {w : mc_w} {I : Nat → Nat → Int32} {R : Nat → Nat → Option Nat} {v0 : Nat} {v1 : Nat} (kv0 : mc_k v0 = 0) (kv1 : mc_k v1 = 0) {Iz : Nat → Nat → Int32} (h : mi_X0_copyFrom I v0 v1 = some Iz) : Met l yX0_copyFrom (Cond.code yX0_copyFrom cX0_copyFrom 2 none :: mc_big) ({ frames := 0, cells := 0, slots := 0, locals := 0 } : Room) (va_Pc [.ref (w.2.2.1 v0), .ref (w.2.2.1 v1)] (mc_B mc_k 152 w I R)) (mc_Q none (mc_B mc_k 152 w Iz R) (mc_A 152 w)) 0 0 (mc_A 152 w) := by
  refine Met.ofW (cc := cX0_copyFrom) (maxL := 2) (ret := none) (by decide) rfl ?_
  intro p e s m args below meth c s₁ B hml hv
  obtain ⟨rfl, hP, K⟩ := hv
  have hown : s.vm.findClass RX0 = some m.cls := findClass_of_methodNamed B.named
  have C : CallFix p m c cX0_copyFrom 2 s _ mc_big RX0 := ⟨B.exec, B.bytes, hml, hown, fun w hw => atoms_spec B.pre w (List.mem_cons_of_mem _ hw)⟩
  have hx := C.1
  have hb := C.2.1
  have hC := And.intro C.1 C.2.1
  have hr := B.returns
  have hlk := B.notSynchronized
  have hS : va_S (mc_A 152 w) s.heap s.heap [] := va_S.rf
  have hl := lv_entry ([.ref (w.2.2.1 v0), .ref (w.2.2.1 v1)]) (n := 2) (Nat.le_of_ble_eq_true rfl)
  rw [lg_entry_eq]
  generalize (lg_sl ([.ref (w.2.2.1 v0), .ref (w.2.2.1 v1)]) ++ List.replicate (2 - (lg_sl ([.ref (w.2.2.1 v0), .ref (w.2.2.1 v1)])).length) Slot.unset).toArray = ls at hl ⊢
  have hl : lv_has ls 2 [(0, .ref (w.2.2.1 v0)), (1, .ref (w.2.2.1 v1))] := hl
  unfold mi_X0_copyFrom at h
  refine lv_aload_n hx hb dX0_copyFrom_0 rfl (lv_at hl 0 rfl) ?_
  refine lv_aload_n hx hb dX0_copyFrom_1 rfl (lv_at hl 1 rfl) ?_
  refine mf_X0_9 C K hP kv1 dX0_copyFrom_2 ?_
  obtain ⟨I1, eI1, h⟩ := mc_bn_e h
  refine mp_X0_9 C K hP hS kv0 eI1 dX0_copyFrom_5 (fun H locs hP hS => ?_)
  refine lv_aload_n hx hb dX0_copyFrom_8 rfl (lv_at hl 0 rfl) ?_
  refine lv_aload_n hx hb dX0_copyFrom_9 rfl (lv_at hl 1 rfl) ?_
  refine mf_X0_15 C K hP kv1 dX0_copyFrom_10 ?_
  obtain ⟨g3, h⟩ := mc_gd h
  obtain ⟨I2, eI2, h⟩ := mc_bn_e h
  refine mp_X0_15 C K hP hS kv0 eI2 (mc_nz g3) dX0_copyFrom_13 (fun H locs hP hS => ?_)
  refine lv_aload_n hx hb dX0_copyFrom_16 rfl (lv_at hl 0 rfl) ?_
  refine lv_aload_n hx hb dX0_copyFrom_17 rfl (lv_at hl 1 rfl) ?_
  refine mf_X0_19 C K hP kv1 dX0_copyFrom_18 ?_
  obtain ⟨I4, eI4, h⟩ := mc_bn_e h
  refine mp_X0_19 C K hP hS kv0 eI4 dX0_copyFrom_21 (fun H locs hP hS => ?_)
  refine lv_aload_n hx hb dX0_copyFrom_24 rfl (lv_at hl 0 rfl) ?_
  refine lv_aload_n hx hb dX0_copyFrom_25 rfl (lv_at hl 1 rfl) ?_
  refine mf_X0_22 C K hP kv1 dX0_copyFrom_26 ?_
  obtain ⟨g6, h⟩ := mc_gd h
  obtain ⟨I5, eI5, h⟩ := mc_bn_e h
  refine mp_X0_22 C K hP hS kv0 eI5 (mc_nz g6) dX0_copyFrom_29 (fun H locs hP hS => ?_)
  refine lv_aload_n hx hb dX0_copyFrom_32 rfl (lv_at hl 0 rfl) ?_
  refine lv_aload_n hx hb dX0_copyFrom_33 rfl (lv_at hl 1 rfl) ?_
  refine mf_X0_25 C K hP kv1 dX0_copyFrom_34 ?_
  obtain ⟨g8, h⟩ := mc_gd h
  obtain ⟨I7, eI7, h⟩ := mc_bn_e h
  refine mp_X0_25 C K hP hS kv0 eI7 (mc_nz g8) dX0_copyFrom_37 (fun H locs hP hS => ?_)
  refine lv_aload_n hx hb dX0_copyFrom_40 rfl (lv_at hl 0 rfl) ?_
  refine lv_aload_n hx hb dX0_copyFrom_41 rfl (lv_at hl 1 rfl) ?_
  refine mf_X0_28 C K hP kv1 dX0_copyFrom_42 ?_
  obtain ⟨I9, eI9, h⟩ := mc_bn_e h
  refine mp_X0_28 C K hP hS kv0 eI9 dX0_copyFrom_45 (fun H locs hP hS => ?_)
  refine lv_aload_n hx hb dX0_copyFrom_48 rfl (lv_at hl 0 rfl) ?_
  refine lv_aload_n hx hb dX0_copyFrom_49 rfl (lv_at hl 1 rfl) ?_
  refine mf_X0_31 C K hP kv1 dX0_copyFrom_50 ?_
  obtain ⟨I10, eI10, h⟩ := mc_bn_e h
  refine mp_X0_31 C K hP hS kv0 eI10 dX0_copyFrom_53 (fun H locs hP hS => ?_)
  refine lv_aload_n hx hb dX0_copyFrom_56 rfl (lv_at hl 0 rfl) ?_
  refine lv_aload_n hx hb dX0_copyFrom_57 rfl (lv_at hl 1 rfl) ?_
  refine mf_X0_34 C K hP kv1 dX0_copyFrom_58 ?_
  obtain ⟨I11, eI11, h⟩ := mc_bn_e h
  refine mp_X0_34 C K hP hS kv0 eI11 dX0_copyFrom_61 (fun H locs hP hS => ?_)
  refine lv_aload_n hx hb dX0_copyFrom_64 rfl (lv_at hl 0 rfl) ?_
  refine lv_aload_n hx hb dX0_copyFrom_65 rfl (lv_at hl 1 rfl) ?_
  refine mf_X0_37 C K hP kv1 dX0_copyFrom_66 ?_
  obtain ⟨I12, eI12, h⟩ := mc_bn_e h
  refine mp_X0_37 C K hP hS kv0 eI12 dX0_copyFrom_69 (fun H locs hP hS => ?_)
  refine lv_aload_n hx hb dX0_copyFrom_72 rfl (lv_at hl 0 rfl) ?_
  refine lv_aload_n hx hb dX0_copyFrom_73 rfl (lv_at hl 1 rfl) ?_
  refine mf_X0_40 C K hP kv1 dX0_copyFrom_74 ?_
  obtain ⟨I13, eI13, h⟩ := mc_bn_e h
  refine mp_X0_40 C K hP hS kv0 eI13 dX0_copyFrom_77 (fun H locs hP hS => ?_)
  refine lv_aload_n hx hb dX0_copyFrom_80 rfl (lv_at hl 0 rfl) ?_
  refine lv_aload_n hx hb dX0_copyFrom_81 rfl (lv_at hl 1 rfl) ?_
  refine mf_X0_43 C K hP kv1 dX0_copyFrom_82 ?_
  obtain ⟨I14, eI14, h⟩ := mc_bn_e h
  refine mp_X0_43 C K hP hS kv0 eI14 dX0_copyFrom_85 (fun H locs hP hS => ?_)
  cases h
  exact mt_v hC hr hlk K hP hS dX0_copyFrom_88
set_option maxHeartbeats 4000000 in
set_option maxRecDepth 100000 in
theorem ct_X0_depthByPair (l : Launch) {w : mc_w} {I : Nat → Nat → Int32} {R : Nat → Nat → Option Nat} {v0 : Nat} (kv0 : mc_k v0 = 0) {rz : Int32} (h : mi_X0_depthByPair I v0 = rz) : Met l yX0_depthByPair (Cond.code yX0_depthByPair cX0_depthByPair 1 (some .int) :: mc_big) ({ frames := 0, cells := 0, slots := 0, locals := 0 } : Room) (va_Pc [.ref (w.2.2.1 v0)] (mc_B mc_k 152 w I R)) (mc_Q (some (.int rz)) (mc_B mc_k 152 w I R) (mc_A 152 w)) 0 0 (mc_A 152 w) := by
  refine Met.ofW (cc := cX0_depthByPair) (maxL := 1) (ret := (some .int)) (by decide) rfl ?_
  intro p e s m args below meth c s₁ B hml hv
  obtain ⟨rfl, hP, K⟩ := hv
  have hown : s.vm.findClass RX0 = some m.cls := findClass_of_methodNamed B.named
  have C : CallFix p m c cX0_depthByPair 1 s _ mc_big RX0 := ⟨B.exec, B.bytes, hml, hown, fun w hw => atoms_spec B.pre w (List.mem_cons_of_mem _ hw)⟩
  have hx := C.1
  have hb := C.2.1
  have hC := And.intro C.1 C.2.1
  have hr := B.returns
  have hlk := B.notSynchronized
  have hS : va_S (mc_A 152 w) s.heap s.heap [] := va_S.rf
  have hl := lv_entry ([.ref (w.2.2.1 v0)]) (n := 1) (Nat.le_of_ble_eq_true rfl)
  rw [lg_entry_eq]
  generalize (lg_sl ([.ref (w.2.2.1 v0)]) ++ List.replicate (1 - (lg_sl ([.ref (w.2.2.1 v0)])).length) Slot.unset).toArray = ls at hl ⊢
  have hl : lv_has ls 1 [(0, .ref (w.2.2.1 v0))] := hl
  unfold mi_X0_depthByPair at h
  refine lv_aload_n hx hb dX0_depthByPair_0 rfl (lv_at hl 0 rfl) ?_
  refine mf_X0_40 C K hP kv0 dX0_depthByPair_1 ?_
  refine lv_aload_n hx hb dX0_depthByPair_4 rfl (lv_at hl 0 rfl) ?_
  refine mf_X0_37 C K hP kv0 dX0_depthByPair_5 ?_
  refine lv_isub hx hb dX0_depthByPair_8 ?_
  refine lv_bipush (v := 10) hx hb dX0_depthByPair_9 (by decide) ?_
  refine lv_imul hx hb dX0_depthByPair_11 ?_
  cases h
  exact mt_i hC hr hlk K hP hS dX0_depthByPair_12
set_option maxHeartbeats 4000000 in
set_option maxRecDepth 100000 in
theorem ct_X0_difference (l : Launch) {w : mc_w} {I : Nat → Nat → Int32} {R : Nat → Nat → Option Nat} {v0 : Nat} (kv0 : mc_k v0 = 0) {rz : Int32} (h : mi_X0_difference I v0 = rz) : Met l yX0_difference (Cond.code yX0_difference cX0_difference 1 (some .int) :: mc_big) ({ frames := 1, cells := 0, slots := 0, locals := 21 } : Room) (va_Pc [.ref (w.2.2.1 v0)] (mc_B mc_k 152 w I R)) (mc_Q (some (.int rz)) (mc_B mc_k 152 w I R) (mc_A 152 w)) 0 0 (mc_A 152 w) := by
  refine Met.ofW (cc := cX0_difference) (maxL := 1) (ret := (some .int)) (by decide) rfl ?_
  intro p e s m args below meth c s₁ B hml hv
  obtain ⟨rfl, hP, K⟩ := hv
  have hown : s.vm.findClass RX0 = some m.cls := findClass_of_methodNamed B.named
  have C : CallFix p m c cX0_difference 1 s _ mc_big RX0 := ⟨B.exec, B.bytes, hml, hown, fun w hw => atoms_spec B.pre w (List.mem_cons_of_mem _ hw)⟩
  have hx := C.1
  have hb := C.2.1
  have hC := And.intro C.1 C.2.1
  have hr := B.returns
  have hlk := B.notSynchronized
  have hS : va_S (mc_A 152 w) s.heap s.heap [] := va_S.rf
  have hl := lv_entry ([.ref (w.2.2.1 v0)]) (n := 1) (Nat.le_of_ble_eq_true rfl)
  rw [lg_entry_eq]
  generalize (lg_sl ([.ref (w.2.2.1 v0)]) ++ List.replicate (1 - (lg_sl ([.ref (w.2.2.1 v0)])).length) Slot.unset).toArray = ls at hl ⊢
  have hl : lv_has ls 1 [(0, .ref (w.2.2.1 v0))] := hl
  unfold mi_X0_difference at h
  refine lv_aload_n hx hb dX0_difference_0 rfl (lv_at hl 0 rfl) ?_
  refine mg_Vi (As := []) (rest := []) (ct_X0_depthByPair l (w := w) (I := I) (R := R) kv0 rfl) C K hP hS hl.1 kv0 (by decide) rfl rfl ml_X0_46 wy_X0_depthByPair wd_X0_depthByPair rfl rfl rfl ⟨Nat.le_of_ble_eq_true rfl, Nat.le_of_ble_eq_true rfl⟩ (Nat.le_of_ble_eq_true rfl) ⟨Nat.zero_le _, Nat.zero_le _⟩ dX0_difference_1 (fun H locs hP hS => ?_)
  refine lv_aload_n hx hb dX0_difference_4 rfl (lv_at hl 0 rfl) ?_
  refine mf_X0_31 C K hP kv0 dX0_difference_5 ?_
  refine lv_isub hx hb dX0_difference_8 ?_
  refine mm_abs C hl.1 ml_X0_50 (Nat.le_of_ble_eq_true rfl) (Nat.le_of_ble_eq_true rfl) ⟨Nat.zero_le _, Nat.zero_le _⟩ dX0_difference_9 ?_
  cases h
  exact mt_i hC hr hlk K hP hS dX0_difference_12
set_option maxHeartbeats 4000000 in
set_option maxRecDepth 100000 in
theorem ct_X1_copyFrom (l : Launch) {w : mc_w} {I : Nat → Nat → Int32} {R : Nat → Nat → Option Nat} {v0 : Nat} {v1 : Nat} (kv0 : mc_k v0 = 1) (kv1 : mc_k v1 = 1) {Iz : Nat → Nat → Int32} (h : mi_X1_copyFrom I v0 v1 = some Iz) : Met l yX1_copyFrom (Cond.code yX1_copyFrom cX1_copyFrom 2 none :: mc_big) ({ frames := 0, cells := 0, slots := 0, locals := 0 } : Room) (va_Pc [.ref (w.2.2.1 v0), .ref (w.2.2.1 v1)] (mc_B mc_k 152 w I R)) (mc_Q none (mc_B mc_k 152 w Iz R) (mc_A 152 w)) 0 0 (mc_A 152 w) := by
  refine Met.ofW (cc := cX1_copyFrom) (maxL := 2) (ret := none) (by decide) rfl ?_
  intro p e s m args below meth c s₁ B hml hv
  obtain ⟨rfl, hP, K⟩ := hv
  have hown : s.vm.findClass RX1 = some m.cls := findClass_of_methodNamed B.named
  have C : CallFix p m c cX1_copyFrom 2 s _ mc_big RX1 := ⟨B.exec, B.bytes, hml, hown, fun w hw => atoms_spec B.pre w (List.mem_cons_of_mem _ hw)⟩
  have hx := C.1
  have hb := C.2.1
  have hC := And.intro C.1 C.2.1
  have hr := B.returns
  have hlk := B.notSynchronized
  have hS : va_S (mc_A 152 w) s.heap s.heap [] := va_S.rf
  have hl := lv_entry ([.ref (w.2.2.1 v0), .ref (w.2.2.1 v1)]) (n := 2) (Nat.le_of_ble_eq_true rfl)
  rw [lg_entry_eq]
  generalize (lg_sl ([.ref (w.2.2.1 v0), .ref (w.2.2.1 v1)]) ++ List.replicate (2 - (lg_sl ([.ref (w.2.2.1 v0), .ref (w.2.2.1 v1)])).length) Slot.unset).toArray = ls at hl ⊢
  have hl : lv_has ls 2 [(0, .ref (w.2.2.1 v0)), (1, .ref (w.2.2.1 v1))] := hl
  unfold mi_X1_copyFrom at h
  refine lv_aload_n hx hb dX1_copyFrom_0 rfl (lv_at hl 0 rfl) ?_
  refine lv_aload_n hx hb dX1_copyFrom_1 rfl (lv_at hl 1 rfl) ?_
  refine mf_X1_9 C K hP kv1 dX1_copyFrom_2 ?_
  obtain ⟨I1, eI1, h⟩ := mc_bn_e h
  refine mp_X1_9 C K hP hS kv0 eI1 dX1_copyFrom_5 (fun H locs hP hS => ?_)
  refine lv_aload_n hx hb dX1_copyFrom_8 rfl (lv_at hl 0 rfl) ?_
  refine lv_aload_n hx hb dX1_copyFrom_9 rfl (lv_at hl 1 rfl) ?_
  refine mf_X1_15 C K hP kv1 dX1_copyFrom_10 ?_
  obtain ⟨I2, eI2, h⟩ := mc_bn_e h
  refine mp_X1_15 C K hP hS kv0 eI2 dX1_copyFrom_13 (fun H locs hP hS => ?_)
  refine lv_aload_n hx hb dX1_copyFrom_16 rfl (lv_at hl 0 rfl) ?_
  refine lv_aload_n hx hb dX1_copyFrom_17 rfl (lv_at hl 1 rfl) ?_
  refine mf_X1_18 C K hP kv1 dX1_copyFrom_18 ?_
  obtain ⟨g4, h⟩ := mc_gd h
  obtain ⟨I3, eI3, h⟩ := mc_bn_e h
  refine mp_X1_18 C K hP hS kv0 eI3 (mc_nz g4) dX1_copyFrom_21 (fun H locs hP hS => ?_)
  cases h
  exact mt_v hC hr hlk K hP hS dX1_copyFrom_24
set_option maxHeartbeats 4000000 in
set_option maxRecDepth 100000 in
theorem ct_X1_countedSlope (l : Launch) {w : mc_w} {I : Nat → Nat → Int32} {R : Nat → Nat → Option Nat} {v0 : Nat} (kv0 : mc_k v0 = 1) {rz : Int32} (h : mi_X1_countedSlope I v0 = rz) : Met l yX1_countedSlope (Cond.code yX1_countedSlope cX1_countedSlope 1 (some .int) :: mc_big) ({ frames := 1, cells := 0, slots := 0, locals := 21 } : Room) (va_Pc [.ref (w.2.2.1 v0)] (mc_B mc_k 152 w I R)) (mc_Q (some (.int rz)) (mc_B mc_k 152 w I R) (mc_A 152 w)) 0 0 (mc_A 152 w) := by
  refine Met.ofW (cc := cX1_countedSlope) (maxL := 1) (ret := (some .int)) (by decide) rfl ?_
  intro p e s m args below meth c s₁ B hml hv
  obtain ⟨rfl, hP, K⟩ := hv
  have hown : s.vm.findClass RX1 = some m.cls := findClass_of_methodNamed B.named
  have C : CallFix p m c cX1_countedSlope 1 s _ mc_big RX1 := ⟨B.exec, B.bytes, hml, hown, fun w hw => atoms_spec B.pre w (List.mem_cons_of_mem _ hw)⟩
  have hx := C.1
  have hb := C.2.1
  have hC := And.intro C.1 C.2.1
  have hr := B.returns
  have hlk := B.notSynchronized
  have hS : va_S (mc_A 152 w) s.heap s.heap [] := va_S.rf
  have hl := lv_entry ([.ref (w.2.2.1 v0)]) (n := 1) (Nat.le_of_ble_eq_true rfl)
  rw [lg_entry_eq]
  generalize (lg_sl ([.ref (w.2.2.1 v0)]) ++ List.replicate (1 - (lg_sl ([.ref (w.2.2.1 v0)])).length) Slot.unset).toArray = ls at hl ⊢
  have hl : lv_has ls 1 [(0, .ref (w.2.2.1 v0))] := hl
  unfold mi_X1_countedSlope at h
  refine lv_aload_n hx hb dX1_countedSlope_0 rfl (lv_at hl 0 rfl) ?_
  refine mf_X1_18 C K hP kv0 dX1_countedSlope_1 ?_
  refine lv_if_eq (tgt := 21) hx hb dX1_countedSlope_4 (by decide) (fun c1 => ?_) (fun c1 => ?_)
  · replace h := mc_it h c1
    refine lv_aload_n hx hb dX1_countedSlope_21 rfl (lv_at hl 0 rfl) ?_
    refine mf_X1_15 C K hP kv0 dX1_countedSlope_22 ?_
    cases h
    exact mt_i hC hr hlk K hP hS dX1_countedSlope_25
  · replace h := mc_ie h c1
    refine lv_bipush (v := 6) hx hb dX1_countedSlope_7 (by decide) ?_
    refine lv_aload_n hx hb dX1_countedSlope_9 rfl (lv_at hl 0 rfl) ?_
    refine mf_X1_15 C K hP kv0 dX1_countedSlope_10 ?_
    refine lv_iconst (v := 2) hx hb dX1_countedSlope_13 (by decide) ?_
    refine lv_iadd hx hb dX1_countedSlope_14 ?_
    refine mm_min C hl.1 ml_X1_22 (Nat.le_of_ble_eq_true rfl) (Nat.le_of_ble_eq_true rfl) ⟨Nat.zero_le _, Nat.zero_le _⟩ dX1_countedSlope_15 ?_
    refine lv_goto (tgt := 25) hx hb dX1_countedSlope_18 (by decide) ?_
    cases h
    exact mt_i hC hr hlk K hP hS dX1_countedSlope_25
set_option maxHeartbeats 4000000 in
set_option maxRecDepth 100000 in
theorem ct_X1_isSticking (l : Launch) {w : mc_w} {I : Nat → Nat → Int32} {R : Nat → Nat → Option Nat} {v0 : Nat} (kv0 : mc_k v0 = 1) {rz : Int32} (h : mi_X1_isSticking I v0 = rz) : Met l yX1_isSticking (Cond.code yX1_isSticking cX1_isSticking 1 (some .boolean) :: mc_big) ({ frames := 2, cells := 0, slots := 0, locals := 41 } : Room) (va_Pc [.ref (w.2.2.1 v0)] (mc_B mc_k 152 w I R)) (mc_Q (some (.int rz)) (fun t => mc_B mc_k 152 w I R t ∧ ¬ (rz ≠ 0 ∧ rz ≠ 1)) (mc_A 152 w)) 0 0 (mc_A 152 w) := by
  refine Met.ofW (cc := cX1_isSticking) (maxL := 1) (ret := (some .boolean)) (by decide) rfl ?_
  intro p e s m args below meth c s₁ B hml hv
  obtain ⟨rfl, hP, K⟩ := hv
  have hown : s.vm.findClass RX1 = some m.cls := findClass_of_methodNamed B.named
  have C : CallFix p m c cX1_isSticking 1 s _ mc_big RX1 := ⟨B.exec, B.bytes, hml, hown, fun w hw => atoms_spec B.pre w (List.mem_cons_of_mem _ hw)⟩
  have hx := C.1
  have hb := C.2.1
  have hC := And.intro C.1 C.2.1
  have hr := B.returns
  have hlk := B.notSynchronized
  have hS : va_S (mc_A 152 w) s.heap s.heap [] := va_S.rf
  have hl := lv_entry ([.ref (w.2.2.1 v0)]) (n := 1) (Nat.le_of_ble_eq_true rfl)
  rw [lg_entry_eq]
  generalize (lg_sl ([.ref (w.2.2.1 v0)]) ++ List.replicate (1 - (lg_sl ([.ref (w.2.2.1 v0)])).length) Slot.unset).toArray = ls at hl ⊢
  have hl : lv_has ls 1 [(0, .ref (w.2.2.1 v0))] := hl
  unfold mi_X1_isSticking at h
  refine lv_aload_n hx hb dX1_isSticking_0 rfl (lv_at hl 0 rfl) ?_
  refine mg_Vi (As := []) (rest := []) (ct_X1_countedSlope l (w := w) (I := I) (R := R) kv0 rfl) C K hP hS hl.1 kv0 (by decide) rfl rfl ml_X1_28 wy_X1_countedSlope wd_X1_countedSlope rfl rfl rfl ⟨Nat.le_of_ble_eq_true rfl, Nat.le_of_ble_eq_true rfl⟩ (Nat.le_of_ble_eq_true rfl) ⟨Nat.zero_le _, Nat.zero_le _⟩ dX1_isSticking_1 (fun H locs hP hS => ?_)
  refine lv_bipush (v := 6) hx hb dX1_isSticking_4 (by decide) ?_
  refine lv_icmp_lt (tgt := 13) hx hb dX1_isSticking_6 (by decide) (fun c2 => ?_) (fun c2 => ?_)
  · replace h := mc_it h c2
    refine lv_iconst (v := 0) hx hb dX1_isSticking_13 (by decide) ?_
    cases h
    exact mt_zX hC hr hlk K hP hS (by decide) (by decide) dX1_isSticking_14
  · replace h := mc_ie h c2
    refine lv_iconst (v := 1) hx hb dX1_isSticking_9 (by decide) ?_
    refine lv_goto (tgt := 14) hx hb dX1_isSticking_10 (by decide) ?_
    cases h
    exact mt_zX hC hr hlk K hP hS (by decide) (by decide) dX1_isSticking_14
set_option maxHeartbeats 4000000 in
set_option maxRecDepth 100000 in
theorem ct_X1_step (l : Launch) {w : mc_w} {I : Nat → Nat → Int32} {R : Nat → Nat → Option Nat} {v0 : Nat} (kv0 : mc_k v0 = 1) {rz : Int32} (h : mi_X1_step I v0 = rz) : Met l yX1_step (Cond.code yX1_step cX1_step 1 (some .int) :: mc_big) ({ frames := 2, cells := 0, slots := 0, locals := 41 } : Room) (va_Pc [.ref (w.2.2.1 v0)] (mc_B mc_k 152 w I R)) (mc_Q (some (.int rz)) (mc_B mc_k 152 w I R) (mc_A 152 w)) 0 0 (mc_A 152 w) := by
  refine Met.ofW (cc := cX1_step) (maxL := 1) (ret := (some .int)) (by decide) rfl ?_
  intro p e s m args below meth c s₁ B hml hv
  obtain ⟨rfl, hP, K⟩ := hv
  have hown : s.vm.findClass RX1 = some m.cls := findClass_of_methodNamed B.named
  have C : CallFix p m c cX1_step 1 s _ mc_big RX1 := ⟨B.exec, B.bytes, hml, hown, fun w hw => atoms_spec B.pre w (List.mem_cons_of_mem _ hw)⟩
  have hx := C.1
  have hb := C.2.1
  have hC := And.intro C.1 C.2.1
  have hr := B.returns
  have hlk := B.notSynchronized
  have hS : va_S (mc_A 152 w) s.heap s.heap [] := va_S.rf
  have hl := lv_entry ([.ref (w.2.2.1 v0)]) (n := 1) (Nat.le_of_ble_eq_true rfl)
  rw [lg_entry_eq]
  generalize (lg_sl ([.ref (w.2.2.1 v0)]) ++ List.replicate (1 - (lg_sl ([.ref (w.2.2.1 v0)])).length) Slot.unset).toArray = ls at hl ⊢
  have hl : lv_has ls 1 [(0, .ref (w.2.2.1 v0))] := hl
  unfold mi_X1_step at h
  refine lv_iconst (v := 1) hx hb dX1_step_0 (by decide) ?_
  refine lv_iconst (v := 5) hx hb dX1_step_1 (by decide) ?_
  refine lv_aload_n hx hb dX1_step_2 rfl (lv_at hl 0 rfl) ?_
  refine mg_Vi (As := []) (rest := [.int 5, .int 1]) (ct_X1_countedSlope l (w := w) (I := I) (R := R) kv0 rfl) C K hP hS hl.1 kv0 (by decide) rfl rfl ml_X1_28 wy_X1_countedSlope wd_X1_countedSlope rfl rfl rfl ⟨Nat.le_of_ble_eq_true rfl, Nat.le_of_ble_eq_true rfl⟩ (Nat.le_of_ble_eq_true rfl) ⟨Nat.zero_le _, Nat.zero_le _⟩ dX1_step_3 (fun H locs hP hS => ?_)
  refine lv_isub hx hb dX1_step_6 ?_
  refine mm_max C hl.1 ml_X1_32 (Nat.le_of_ble_eq_true rfl) (Nat.le_of_ble_eq_true rfl) ⟨Nat.zero_le _, Nat.zero_le _⟩ dX1_step_7 ?_
  cases h
  exact mt_i hC hr hlk K hP hS dX1_step_10
set_option maxHeartbeats 4000000 in
set_option maxRecDepth 100000 in
theorem ct_X1_isInWater (l : Launch) {w : mc_w} {I : Nat → Nat → Int32} {R : Nat → Nat → Option Nat} {v0 : Nat} {v1 : Int32} (kv0 : mc_k v0 = 1) {rz : Int32} (h : mi_X1_isInWater I v0 v1 = rz) : Met l yX1_isInWater (Cond.code yX1_isInWater cX1_isInWater 2 (some .boolean) :: mc_big) ({ frames := 0, cells := 0, slots := 0, locals := 0 } : Room) (va_Pc [.ref (w.2.2.1 v0), .int v1] (mc_B mc_k 152 w I R)) (mc_Q (some (.int rz)) (fun t => mc_B mc_k 152 w I R t ∧ ¬ (rz ≠ 0 ∧ rz ≠ 1)) (mc_A 152 w)) 0 0 (mc_A 152 w) := by
  refine Met.ofW (cc := cX1_isInWater) (maxL := 2) (ret := (some .boolean)) (by decide) rfl ?_
  intro p e s m args below meth c s₁ B hml hv
  obtain ⟨rfl, hP, K⟩ := hv
  have hown : s.vm.findClass RX1 = some m.cls := findClass_of_methodNamed B.named
  have C : CallFix p m c cX1_isInWater 2 s _ mc_big RX1 := ⟨B.exec, B.bytes, hml, hown, fun w hw => atoms_spec B.pre w (List.mem_cons_of_mem _ hw)⟩
  have hx := C.1
  have hb := C.2.1
  have hC := And.intro C.1 C.2.1
  have hr := B.returns
  have hlk := B.notSynchronized
  have hS : va_S (mc_A 152 w) s.heap s.heap [] := va_S.rf
  have hl := lv_entry ([.ref (w.2.2.1 v0), .int v1]) (n := 2) (Nat.le_of_ble_eq_true rfl)
  rw [lg_entry_eq]
  generalize (lg_sl ([.ref (w.2.2.1 v0), .int v1]) ++ List.replicate (2 - (lg_sl ([.ref (w.2.2.1 v0), .int v1])).length) Slot.unset).toArray = ls at hl ⊢
  have hl : lv_has ls 2 [(0, .ref (w.2.2.1 v0)), (1, .int v1)] := hl
  unfold mi_X1_isInWater at h
  refine lv_iload_n hx hb dX1_isInWater_0 rfl (lv_at hl 1 rfl) ?_
  refine lv_aload_n hx hb dX1_isInWater_1 rfl (lv_at hl 0 rfl) ?_
  refine mf_X1_9 C K hP kv0 dX1_isInWater_2 ?_
  refine lv_icmp_ge (tgt := 12) hx hb dX1_isInWater_5 (by decide) (fun c1 => ?_) (fun c1 => ?_)
  · replace h := mc_it h c1
    refine lv_iconst (v := 0) hx hb dX1_isInWater_12 (by decide) ?_
    cases h
    exact mt_zX hC hr hlk K hP hS (by decide) (by decide) dX1_isInWater_13
  · replace h := mc_ie h c1
    refine lv_iconst (v := 1) hx hb dX1_isInWater_8 (by decide) ?_
    refine lv_goto (tgt := 13) hx hb dX1_isInWater_9 (by decide) ?_
    cases h
    exact mt_zX hC hr hlk K hP hS (by decide) (by decide) dX1_isInWater_13
set_option maxHeartbeats 4000000 in
set_option maxRecDepth 100000 in
theorem ct_X1_metreOf (l : Launch) {w : mc_w} {I : Nat → Nat → Int32} {R : Nat → Nat → Option Nat} {v0 : Nat} {v1 : Int32} (kv0 : mc_k v0 = 1) {rz : Int32} (h : mi_X1_metreOf I v0 v1 = rz) : Met l yX1_metreOf (Cond.code yX1_metreOf cX1_metreOf 2 (some .int) :: mc_big) ({ frames := 1, cells := 0, slots := 0, locals := 21 } : Room) (va_Pc [.ref (w.2.2.1 v0), .int v1] (mc_B mc_k 152 w I R)) (mc_Q (some (.int rz)) (mc_B mc_k 152 w I R) (mc_A 152 w)) 0 0 (mc_A 152 w) := by
  refine Met.ofW (cc := cX1_metreOf) (maxL := 2) (ret := (some .int)) (by decide) rfl ?_
  intro p e s m args below meth c s₁ B hml hv
  obtain ⟨rfl, hP, K⟩ := hv
  have hown : s.vm.findClass RX1 = some m.cls := findClass_of_methodNamed B.named
  have C : CallFix p m c cX1_metreOf 2 s _ mc_big RX1 := ⟨B.exec, B.bytes, hml, hown, fun w hw => atoms_spec B.pre w (List.mem_cons_of_mem _ hw)⟩
  have hx := C.1
  have hb := C.2.1
  have hC := And.intro C.1 C.2.1
  have hr := B.returns
  have hlk := B.notSynchronized
  have hS : va_S (mc_A 152 w) s.heap s.heap [] := va_S.rf
  have hl := lv_entry ([.ref (w.2.2.1 v0), .int v1]) (n := 2) (Nat.le_of_ble_eq_true rfl)
  rw [lg_entry_eq]
  generalize (lg_sl ([.ref (w.2.2.1 v0), .int v1]) ++ List.replicate (2 - (lg_sl ([.ref (w.2.2.1 v0), .int v1])).length) Slot.unset).toArray = ls at hl ⊢
  have hl : lv_has ls 2 [(0, .ref (w.2.2.1 v0)), (1, .int v1)] := hl
  unfold mi_X1_metreOf at h
  refine lv_aload_n hx hb dX1_metreOf_0 rfl (lv_at hl 0 rfl) ?_
  refine lv_iload_n hx hb dX1_metreOf_1 rfl (lv_at hl 1 rfl) ?_
  refine mg_Vz (As := [.int v1]) (rest := []) (ct_X1_isInWater l (w := w) (I := I) (R := R) kv0 rfl) C K hP hS hl.1 kv0 (by decide) rfl rfl ml_X1_35 wy_X1_isInWater wd_X1_isInWater rfl rfl rfl ⟨Nat.le_of_ble_eq_true rfl, Nat.le_of_ble_eq_true rfl⟩ (Nat.le_of_ble_eq_true rfl) ⟨Nat.zero_le _, Nat.zero_le _⟩ dX1_metreOf_2 (fun H locs hP z2 hS => ?_)
  refine lv_if_eq (tgt := 17) hx hb dX1_metreOf_5 (by decide) (fun c3 => ?_) (fun c3 => ?_)
  · replace h := mc_it h c3
    refine lv_iconst (v := 0) hx hb dX1_metreOf_17 (by decide) ?_
    cases h
    exact mt_i hC hr hlk K hP hS dX1_metreOf_18
  · replace h := mc_ie h c3
    refine lv_aload_n hx hb dX1_metreOf_8 rfl (lv_at hl 0 rfl) ?_
    refine mf_X1_9 C K hP kv0 dX1_metreOf_9 ?_
    refine lv_iload_n hx hb dX1_metreOf_12 rfl (lv_at hl 1 rfl) ?_
    refine lv_isub hx hb dX1_metreOf_13 ?_
    refine lv_goto (tgt := 18) hx hb dX1_metreOf_14 (by decide) ?_
    cases h
    exact mt_i hC hr hlk K hP hS dX1_metreOf_18
set_option maxHeartbeats 4000000 in
set_option maxRecDepth 100000 in
theorem ct_X8_depthAt (l : Launch) {w : mc_w} {I : Nat → Nat → Int32} {R : Nat → Nat → Option Nat} {v0 : Int32} {v1 : Int32} {rz : Int32} (h : mi_X8_depthAt I v0 v1 = some rz) : Met l yX8_depthAt (Cond.code yX8_depthAt cX8_depthAt 2 (some .int) :: mc_big) ({ frames := 0, cells := 0, slots := 0, locals := 0 } : Room) (va_Pc [.int v0, .int v1] (mc_B mc_k 152 w I R)) (mc_Q (some (.int rz)) (mc_B mc_k 152 w I R) (mc_A 152 w)) 0 0 (mc_A 152 w) := by
  refine Met.ofW (cc := cX8_depthAt) (maxL := 2) (ret := (some .int)) (by decide) rfl ?_
  intro p e s m args below meth c s₁ B hml hv
  obtain ⟨rfl, hP, K⟩ := hv
  have hown : s.vm.findClass RX8 = some m.cls := findClass_of_methodNamed B.named
  have C : CallFix p m c cX8_depthAt 2 s _ mc_big RX8 := ⟨B.exec, B.bytes, hml, hown, fun w hw => atoms_spec B.pre w (List.mem_cons_of_mem _ hw)⟩
  have hx := C.1
  have hb := C.2.1
  have hC := And.intro C.1 C.2.1
  have hr := B.returns
  have hlk := B.notSynchronized
  have hS : va_S (mc_A 152 w) s.heap s.heap [] := va_S.rf
  have hl := lv_entry ([.int v0, .int v1]) (n := 2) (Nat.le_of_ble_eq_true rfl)
  rw [lg_entry_eq]
  generalize (lg_sl ([.int v0, .int v1]) ++ List.replicate (2 - (lg_sl ([.int v0, .int v1])).length) Slot.unset).toArray = ls at hl ⊢
  have hl : lv_has ls 2 [(0, .int v0), (1, .int v1)] := hl
  unfold mi_X8_depthAt at h
  refine lv_iload_n hx hb dX8_depthAt_0 rfl (lv_at hl 1 rfl) ?_
  refine lv_if_lt (tgt := 12) hx hb dX8_depthAt_1 (by decide) (fun c1 => ?_) (fun c1 => ?_)
  · replace h := mc_it h c1
    refine lv_iconst (v := 0) hx hb dX8_depthAt_12 (by decide) ?_
    cases h
    exact mt_i hC hr hlk K hP hS dX8_depthAt_13
  · replace h := mc_ie h c1
    refine lv_iload_n hx hb dX8_depthAt_4 rfl (lv_at hl 1 rfl) ?_
    refine mf_X8_234 C K hS dX8_depthAt_5 ?_
    refine ma_tl hC K hS dX8_depthAt_8 ?_
    refine lv_icmp_lt (tgt := 14) hx hb dX8_depthAt_9 (by decide) (fun c2 => ?_) (fun c2 => ?_)
    · replace h := mc_it h c2
      refine lv_iload_n hx hb dX8_depthAt_14 rfl (lv_at hl 0 rfl) ?_
      refine mf_X8_234 C K hS dX8_depthAt_15 ?_
      refine lv_iload_n hx hb dX8_depthAt_18 rfl (lv_at hl 1 rfl) ?_
      obtain ⟨g3, h⟩ := mc_gd h
      refine ma_t hC K hS g3 dX8_depthAt_19 ?_
      refine lv_imul hx hb dX8_depthAt_20 ?_
      refine lv_sipush (v := 1000) hx hb dX8_depthAt_21 (by decide) ?_
      refine lv_idiv hx hb dX8_depthAt_24 (by decide) ?_
      cases h
      exact mt_i hC hr hlk K hP hS dX8_depthAt_25
    · replace h := mc_ie h c2
      refine lv_iconst (v := 0) hx hb dX8_depthAt_12 (by decide) ?_
      cases h
      exact mt_i hC hr hlk K hP hS dX8_depthAt_13
set_option maxHeartbeats 4000000 in
set_option maxRecDepth 100000 in
theorem ct_X1_depthOf (l : Launch) {w : mc_w} {I : Nat → Nat → Int32} {R : Nat → Nat → Option Nat} {v0 : Nat} {v1 : Int32} (kv0 : mc_k v0 = 1) {rz : Int32} (h : mi_X1_depthOf I v0 v1 = some rz) : Met l yX1_depthOf (Cond.code yX1_depthOf cX1_depthOf 2 (some .int) :: mc_big) ({ frames := 2, cells := 0, slots := 0, locals := 42 } : Room) (va_Pc [.ref (w.2.2.1 v0), .int v1] (mc_B mc_k 152 w I R)) (mc_Q (some (.int rz)) (mc_B mc_k 152 w I R) (mc_A 152 w)) 0 0 (mc_A 152 w) := by
  refine Met.ofW (cc := cX1_depthOf) (maxL := 2) (ret := (some .int)) (by decide) rfl ?_
  intro p e s m args below meth c s₁ B hml hv
  obtain ⟨rfl, hP, K⟩ := hv
  have hown : s.vm.findClass RX1 = some m.cls := findClass_of_methodNamed B.named
  have C : CallFix p m c cX1_depthOf 2 s _ mc_big RX1 := ⟨B.exec, B.bytes, hml, hown, fun w hw => atoms_spec B.pre w (List.mem_cons_of_mem _ hw)⟩
  have hx := C.1
  have hb := C.2.1
  have hC := And.intro C.1 C.2.1
  have hr := B.returns
  have hlk := B.notSynchronized
  have hS : va_S (mc_A 152 w) s.heap s.heap [] := va_S.rf
  have hl := lv_entry ([.ref (w.2.2.1 v0), .int v1]) (n := 2) (Nat.le_of_ble_eq_true rfl)
  rw [lg_entry_eq]
  generalize (lg_sl ([.ref (w.2.2.1 v0), .int v1]) ++ List.replicate (2 - (lg_sl ([.ref (w.2.2.1 v0), .int v1])).length) Slot.unset).toArray = ls at hl ⊢
  have hl : lv_has ls 2 [(0, .ref (w.2.2.1 v0)), (1, .int v1)] := hl
  unfold mi_X1_depthOf at h
  refine lv_aload_n hx hb dX1_depthOf_0 rfl (lv_at hl 0 rfl) ?_
  refine lv_iload_n hx hb dX1_depthOf_1 rfl (lv_at hl 1 rfl) ?_
  refine mg_Vi (As := [.int v1]) (rest := []) (ct_X1_metreOf l (w := w) (I := I) (R := R) kv0 rfl) C K hP hS hl.1 kv0 (by decide) rfl rfl ml_X1_39 wy_X1_metreOf wd_X1_metreOf rfl rfl rfl ⟨Nat.le_of_ble_eq_true rfl, Nat.le_of_ble_eq_true rfl⟩ (Nat.le_of_ble_eq_true rfl) ⟨Nat.zero_le _, Nat.zero_le _⟩ dX1_depthOf_2 (fun H locs hP hS => ?_)
  refine lv_aload_n hx hb dX1_depthOf_5 rfl (lv_at hl 0 rfl) ?_
  refine mg_Vi (As := []) (rest := [.int (mi_X1_metreOf I v0 v1)]) (ct_X1_countedSlope l (w := w) (I := I) (R := R) kv0 rfl) C K hP hS hl.1 kv0 (by decide) rfl rfl ml_X1_28 wy_X1_countedSlope wd_X1_countedSlope rfl rfl rfl ⟨Nat.le_of_ble_eq_true rfl, Nat.le_of_ble_eq_true rfl⟩ (Nat.le_of_ble_eq_true rfl) ⟨Nat.zero_le _, Nat.zero_le _⟩ dX1_depthOf_6 (fun H locs hP hS => ?_)
  obtain ⟨r3, e4, h⟩ := mc_ob_e h
  refine mg_SNi (As := [.int (mi_X1_metreOf I v0 v1), .int (mi_X1_countedSlope I v0)]) (rest := []) (ct_X8_depthAt l (w := w) (I := I) (R := R) e4) C K hP hS hl.1 K.2.2.2.2.2.2.2.2.2.2.2.2 wy_X8_depthAt wd_X8_depthAt rfl rfl rfl ⟨Nat.le_of_ble_eq_true rfl, Nat.le_of_ble_eq_true rfl⟩ (Nat.le_of_ble_eq_true rfl) ⟨Nat.zero_le _, Nat.zero_le _⟩ dX1_depthOf_9 (fun H locs hP hS => ?_)
  cases h
  exact mt_i hC hr hlk K hP hS dX1_depthOf_12
set_option maxHeartbeats 4000000 in
set_option maxRecDepth 100000 in
theorem bk_X3_dropOldest_B9 {p : Program} {l : Launch} {e : Env} {s : State} {m : MethodId} {args : Array Value} {below : List Frame} {meth : Method} {c : Code} (C : CallFix p m c cX3_dropOldest 3 s args mc_big RX3) (hr : meth.sig.returnType = none) (hlk : meth.locks = false) {w : mc_w} (K : mc_K mc_k 152 w s) {F : Nat} {Iz : Nat → Nat → Int32} {Rz : Nat → Nat → Option Nat} {k9 : (Nat → Nat → Int32) → (Nat → Nat → Option Nat) → Option Nat → Int32 → (Option ((Nat → Nat → Int32) × (Nat → Nat → Option Nat)))} (hk9 : ∀ (I : Nat → Nat → Int32) (R : Nat → Nat → Option Nat) (v1 : Option Nat) (v2 : Int32), k9 I R v1 v2 = some (Iz, Rz) → (∀ b, v1 = some b → mc_k b = 5) → ∀ {H : Heap} {locs : List Loc} {ls : Array Slot}, mc_P mc_k 152 w I R H → va_S (mc_A 152 w) s.heap H locs → lv_has ls 3 [(0, .ref (w.2.2.1 145)), (1, va_re w.2.2.1 v1), (2, .int v2)] → W p l e ({ frames := 0, cells := 0, slots := 0, locals := 0 } : Room) s m args below meth c H locs 0 0 (MQ below (mc_Q none (mc_B mc_k 152 w Iz Rz) (mc_A 152 w)) args s 0 0 (mc_A 152 w)) (F0 m 9 ls [])) : ∀ (I : Nat → Nat → Int32) (R : Nat → Nat → Option Nat) (v1 : Option Nat) (v2 : Int32), mi_X3_dropOldest_B9 k9 F I R v1 v2 = some (Iz, Rz) → (∀ b, v1 = some b → mc_k b = 5) → ∀ {H : Heap} {locs : List Loc} {ls : Array Slot}, mc_P mc_k 152 w I R H → va_S (mc_A 152 w) s.heap H locs → lv_has ls 3 [(0, .ref (w.2.2.1 145)), (1, va_re w.2.2.1 v1), (2, .int v2)] → W p l e ({ frames := 0, cells := 0, slots := 0, locals := 0 } : Room) s m args below meth c H locs 0 0 (MQ below (mc_Q none (mc_B mc_k 152 w Iz Rz) (mc_A 152 w)) args s 0 0 (mc_A 152 w)) (F0 m 9 ls []) := by
  intro I R v1 v2 h tv1 H locs ls hP hS hl
  have hx := C.1
  have hb := C.2.1
  have hC := And.intro C.1 C.2.1
  unfold mi_X3_dropOldest_B9 at h
  refine lv_iload_n hx hb dX3_dropOldest_9 rfl (lv_at hl 2 rfl) ?_
  refine lv_iconst (v := 3) hx hb dX3_dropOldest_10 (by decide) ?_
  refine lv_icmp_ge (tgt := 34) hx hb dX3_dropOldest_11 (by decide) (fun c3 => ?_) (fun c3 => ?_)
  · replace h := mc_it h c3
    refine lv_aload_n hx hb dX3_dropOldest_34 rfl (lv_at hl 0 rfl) ?_
    refine mf_X3_11 C K hP kf_145 dX3_dropOldest_35 ?_
    refine lv_iconst (v := 3) hx hb dX3_dropOldest_38 (by decide) ?_
    refine mv_aload_n hC dX3_dropOldest_39 rfl (lv_at hl 1 rfl) ?_
    obtain ⟨g4, h⟩ := mc_gd h
    obtain ⟨R5, eR5, h⟩ := mc_bn_e h
    refine ma_s13 (x := v1) hC K hP hS kf_146 tv1 g4 eR5 dX3_dropOldest_40 (fun H locs hP hS => ?_)
    refine lv_aload_n hx hb dX3_dropOldest_41 rfl (lv_at hl 0 rfl) ?_
    refine lv_iconst (v := 3) hx hb dX3_dropOldest_42 (by decide) ?_
    obtain ⟨I6, eI6, h⟩ := mc_bn_e h
    refine mp_X3_18 C K hP hS kf_145 eI6 dX3_dropOldest_43 (fun H locs hP hS => ?_)
    cases h
    exact mt_v hC hr hlk K hP hS dX3_dropOldest_46
  · replace h := mc_ie h c3
    refine lv_aload_n hx hb dX3_dropOldest_14 rfl (lv_at hl 0 rfl) ?_
    refine mf_X3_11 C K hP kf_145 dX3_dropOldest_15 ?_
    refine lv_iload_n hx hb dX3_dropOldest_18 rfl (lv_at hl 2 rfl) ?_
    refine lv_aload_n hx hb dX3_dropOldest_19 rfl (lv_at hl 0 rfl) ?_
    refine mf_X3_11 C K hP kf_145 dX3_dropOldest_20 ?_
    refine lv_iload_n hx hb dX3_dropOldest_23 rfl (lv_at hl 2 rfl) ?_
    refine lv_iconst (v := 1) hx hb dX3_dropOldest_24 (by decide) ?_
    refine lv_iadd hx hb dX3_dropOldest_25 ?_
    obtain ⟨g7, h⟩ := mc_gd h
    obtain ⟨y8, ey8, h⟩ := mc_bn_e h
    have ty8 : ∀ b, y8 = some b → mc_k b = 5 := fun b hb => (hP.2 _ _ b (ey8.symm.trans hb)).2 kf_146
    refine ma_l13 hC K hP kf_146 g7 dX3_dropOldest_26 ?_
    refine mv_topr ey8 ?_
    obtain ⟨g9, h⟩ := mc_gd h
    obtain ⟨R10, eR10, h⟩ := mc_bn_e h
    refine ma_s13 (x := y8) hC K hP hS kf_146 ty8 g9 eR10 dX3_dropOldest_27 (fun H locs hP hS => ?_)
    obtain ⟨x11, ex11, h⟩ := mc_bn_e h
    refine lv_iinc (v := x11) (lv' := [(2, .int x11), (0, .ref (w.2.2.1 145)), (1, va_re w.2.2.1 v1)]) hx hb dX3_dropOldest_28 hl (k := 2) rfl (by rw [ex11]; rfl) (by decide) (by simp [mv_cat]) (fun ls hl => ?_)
    refine lv_goto (tgt := 9) hx hb dX3_dropOldest_31 (by decide) ?_
    exact hk9 I R10 v1 x11 h tv1 hP hS (lv_sub hl [1, 2, 0] rfl)
theorem bk_X3_dropOldest_L9 {p : Program} {l : Launch} {e : Env} {s : State} {m : MethodId} {args : Array Value} {below : List Frame} {meth : Method} {c : Code} (C : CallFix p m c cX3_dropOldest 3 s args mc_big RX3) (hr : meth.sig.returnType = none) (hlk : meth.locks = false) {w : mc_w} (K : mc_K mc_k 152 w s) {F : Nat} {Iz : Nat → Nat → Int32} {Rz : Nat → Nat → Option Nat} : ∀ n : Nat, ∀ (I : Nat → Nat → Int32) (R : Nat → Nat → Option Nat) (v1 : Option Nat) (v2 : Int32), mi_X3_dropOldest_L9 F n I R v1 v2 = some (Iz, Rz) → (∀ b, v1 = some b → mc_k b = 5) → ∀ {H : Heap} {locs : List Loc} {ls : Array Slot}, mc_P mc_k 152 w I R H → va_S (mc_A 152 w) s.heap H locs → lv_has ls 3 [(0, .ref (w.2.2.1 145)), (1, va_re w.2.2.1 v1), (2, .int v2)] → W p l e ({ frames := 0, cells := 0, slots := 0, locals := 0 } : Room) s m args below meth c H locs 0 0 (MQ below (mc_Q none (mc_B mc_k 152 w Iz Rz) (mc_A 152 w)) args s 0 0 (mc_A 152 w)) (F0 m 9 ls []) := by
  intro n
  induction n with
  | zero =>
    intro I R v1 v2 h
    cases h
  | succ n ih =>
    intro I R v1 v2 h
    exact bk_X3_dropOldest_B9 C hr hlk K  ih I R v1 v2 h
set_option maxHeartbeats 4000000 in
set_option maxRecDepth 100000 in
theorem ct_X3_dropOldest (l : Launch) {w : mc_w} {I : Nat → Nat → Int32} {R : Nat → Nat → Option Nat} {F : Nat} {Iz : Nat → Nat → Int32} {Rz : Nat → Nat → Option Nat} (h : mi_X3_dropOldest F I R = some (Iz, Rz)) : Met l yX3_dropOldest (Cond.code yX3_dropOldest cX3_dropOldest 3 none :: mc_big) ({ frames := 0, cells := 0, slots := 0, locals := 0 } : Room) (va_Pc [.ref (w.2.2.1 145)] (mc_B mc_k 152 w I R)) (mc_Q none (mc_B mc_k 152 w Iz Rz) (mc_A 152 w)) 0 0 (mc_A 152 w) := by
  refine Met.ofW (cc := cX3_dropOldest) (maxL := 3) (ret := none) (by decide) rfl ?_
  intro p e s m args below meth c s₁ B hml hv
  obtain ⟨rfl, hP, K⟩ := hv
  have hown : s.vm.findClass RX3 = some m.cls := findClass_of_methodNamed B.named
  have C : CallFix p m c cX3_dropOldest 3 s _ mc_big RX3 := ⟨B.exec, B.bytes, hml, hown, fun w hw => atoms_spec B.pre w (List.mem_cons_of_mem _ hw)⟩
  have hx := C.1
  have hb := C.2.1
  have hC := And.intro C.1 C.2.1
  have hr := B.returns
  have hlk := B.notSynchronized
  have hS : va_S (mc_A 152 w) s.heap s.heap [] := va_S.rf
  have hl := lv_entry ([.ref (w.2.2.1 145)]) (n := 3) (Nat.le_of_ble_eq_true rfl)
  rw [lg_entry_eq]
  generalize (lg_sl ([.ref (w.2.2.1 145)]) ++ List.replicate (3 - (lg_sl ([.ref (w.2.2.1 145)])).length) Slot.unset).toArray = ls at hl ⊢
  have hl : lv_has ls 3 [(0, .ref (w.2.2.1 145))] := hl
  unfold mi_X3_dropOldest at h
  refine lv_aload_n hx hb dX3_dropOldest_0 rfl (lv_at hl 0 rfl) ?_
  refine mf_X3_11 C K hP kf_145 dX3_dropOldest_1 ?_
  refine lv_iconst (v := 0) hx hb dX3_dropOldest_4 (by decide) ?_
  obtain ⟨g1, h⟩ := mc_gd h
  obtain ⟨y2, ey2, h⟩ := mc_bn_e h
  have ty2 : ∀ b, y2 = some b → mc_k b = 5 := fun b hb => (hP.2 _ _ b (ey2.symm.trans hb)).2 kf_146
  refine ma_l13 hC K hP kf_146 g1 dX3_dropOldest_5 ?_
  refine mv_topr ey2 ?_
  refine mv_astore_n (i := 1) (lv' := [(1, va_re w.2.2.1 y2), (0, .ref (w.2.2.1 145))]) hC dX3_dropOldest_6 rfl hl (by decide) rfl (fun ls hl => ?_)
  refine lv_iconst (v := 0) hx hb dX3_dropOldest_7 (by decide) ?_
  refine lv_istore_n (i := 2) (lv' := [(2, .int 0), (1, va_re w.2.2.1 y2), (0, .ref (w.2.2.1 145))]) hx hb dX3_dropOldest_8 rfl hl (by decide) (by simp [mv_cat]) (fun ls hl => ?_)
  exact bk_X3_dropOldest_L9 C hr hlk K  F I R y2 0 h ty2 hP hS (lv_sub hl [2, 1, 0] rfl)
set_option maxHeartbeats 4000000 in
set_option maxRecDepth 100000 in
theorem bk_X7_copyFrom_B2 {p : Program} {l : Launch} {e : Env} {s : State} {m : MethodId} {args : Array Value} {below : List Frame} {meth : Method} {c : Code} (C : CallFix p m c cX7_copyFrom 3 s args mc_big RX7) (hr : meth.sig.returnType = none) (hlk : meth.locks = false) {w : mc_w} (K : mc_K mc_k 152 w s) {R : Nat → Nat → Option Nat} {F : Nat} {Iz : Nat → Nat → Int32} {k2 : (Nat → Nat → Int32) → Nat → Nat → Int32 → (Option ((Nat → Nat → Int32)))} (hk2 : ∀ (I : Nat → Nat → Int32) (v0 : Nat) (v1 : Nat) (v2 : Int32), k2 I v0 v1 v2 = some Iz → (mc_k v0 = 7) → (mc_k v1 = 7) → ∀ {H : Heap} {locs : List Loc} {ls : Array Slot}, mc_P mc_k 152 w I R H → va_S (mc_A 152 w) s.heap H locs → lv_has ls 3 [(0, .ref (w.2.2.1 v0)), (1, .ref (w.2.2.1 v1)), (2, .int v2)] → W p l e ({ frames := 0, cells := 0, slots := 0, locals := 0 } : Room) s m args below meth c H locs 0 0 (MQ below (mc_Q none (mc_B mc_k 152 w Iz R) (mc_A 152 w)) args s 0 0 (mc_A 152 w)) (F0 m 2 ls [])) : ∀ (I : Nat → Nat → Int32) (v0 : Nat) (v1 : Nat) (v2 : Int32), mi_X7_copyFrom_B2 k2 F I v0 v1 v2 = some Iz → (mc_k v0 = 7) → (mc_k v1 = 7) → ∀ {H : Heap} {locs : List Loc} {ls : Array Slot}, mc_P mc_k 152 w I R H → va_S (mc_A 152 w) s.heap H locs → lv_has ls 3 [(0, .ref (w.2.2.1 v0)), (1, .ref (w.2.2.1 v1)), (2, .int v2)] → W p l e ({ frames := 0, cells := 0, slots := 0, locals := 0 } : Room) s m args below meth c H locs 0 0 (MQ below (mc_Q none (mc_B mc_k 152 w Iz R) (mc_A 152 w)) args s 0 0 (mc_A 152 w)) (F0 m 2 ls []) := by
  intro I v0 v1 v2 h kv0 kv1 H locs ls hP hS hl
  have hx := C.1
  have hb := C.2.1
  have hC := And.intro C.1 C.2.1
  unfold mi_X7_copyFrom_B2 at h
  refine lv_iload_n hx hb dX7_copyFrom_2 rfl (lv_at hl 2 rfl) ?_
  refine lv_bipush (v := 10) hx hb dX7_copyFrom_3 (by decide) ?_
  refine lv_icmp_ge (tgt := 38) hx hb dX7_copyFrom_5 (by decide) (fun c1 => ?_) (fun c1 => ?_)
  · replace h := mc_it h c1
    cases h
    exact mt_v hC hr hlk K hP hS dX7_copyFrom_38
  · replace h := mc_ie h c1
    refine lv_aload_n hx hb dX7_copyFrom_8 rfl (lv_at hl 0 rfl) ?_
    refine mf_X7_9 C K hP kv0 dX7_copyFrom_9 ?_
    refine lv_iload_n hx hb dX7_copyFrom_12 rfl (lv_at hl 2 rfl) ?_
    refine lv_aload_n hx hb dX7_copyFrom_13 rfl (lv_at hl 1 rfl) ?_
    refine mf_X7_9 C K hP kv1 dX7_copyFrom_14 ?_
    refine lv_iload_n hx hb dX7_copyFrom_17 rfl (lv_at hl 2 rfl) ?_
    obtain ⟨g2, h⟩ := mc_gd h
    refine ma_l11 hC K hP (kk_7_1 kv1) g2 dX7_copyFrom_18 ?_
    obtain ⟨g3, h⟩ := mc_gd h
    obtain ⟨I4, eI4, h⟩ := mc_bn_e h
    refine ma_s11 hC K hP hS (kk_7_1 kv0) g3 eI4 dX7_copyFrom_19 (fun H locs hP hS => ?_)
    refine lv_aload_n hx hb dX7_copyFrom_20 rfl (lv_at hl 0 rfl) ?_
    refine mf_X7_15 C K hP kv0 dX7_copyFrom_21 ?_
    refine lv_iload_n hx hb dX7_copyFrom_24 rfl (lv_at hl 2 rfl) ?_
    refine lv_aload_n hx hb dX7_copyFrom_25 rfl (lv_at hl 1 rfl) ?_
    refine mf_X7_15 C K hP kv1 dX7_copyFrom_26 ?_
    refine lv_iload_n hx hb dX7_copyFrom_29 rfl (lv_at hl 2 rfl) ?_
    obtain ⟨g5, h⟩ := mc_gd h
    refine ma_l11 hC K hP (kk_7_2 kv1) g5 dX7_copyFrom_30 ?_
    obtain ⟨g6, h⟩ := mc_gd h
    obtain ⟨I7, eI7, h⟩ := mc_bn_e h
    refine ma_s11 hC K hP hS (kk_7_2 kv0) g6 eI7 dX7_copyFrom_31 (fun H locs hP hS => ?_)
    obtain ⟨x8, ex8, h⟩ := mc_bn_e h
    refine lv_iinc (v := x8) (lv' := [(2, .int x8), (0, .ref (w.2.2.1 v0)), (1, .ref (w.2.2.1 v1))]) hx hb dX7_copyFrom_32 hl (k := 2) rfl (by rw [ex8]; rfl) (by decide) rfl (fun ls hl => ?_)
    refine lv_goto (tgt := 2) hx hb dX7_copyFrom_35 (by decide) ?_
    exact hk2 I7 v0 v1 x8 h kv0 kv1 hP hS (lv_sub hl [1, 2, 0] rfl)
theorem bk_X7_copyFrom_L2 {p : Program} {l : Launch} {e : Env} {s : State} {m : MethodId} {args : Array Value} {below : List Frame} {meth : Method} {c : Code} (C : CallFix p m c cX7_copyFrom 3 s args mc_big RX7) (hr : meth.sig.returnType = none) (hlk : meth.locks = false) {w : mc_w} (K : mc_K mc_k 152 w s) {R : Nat → Nat → Option Nat} {F : Nat} {Iz : Nat → Nat → Int32} : ∀ n : Nat, ∀ (I : Nat → Nat → Int32) (v0 : Nat) (v1 : Nat) (v2 : Int32), mi_X7_copyFrom_L2 F n I v0 v1 v2 = some Iz → (mc_k v0 = 7) → (mc_k v1 = 7) → ∀ {H : Heap} {locs : List Loc} {ls : Array Slot}, mc_P mc_k 152 w I R H → va_S (mc_A 152 w) s.heap H locs → lv_has ls 3 [(0, .ref (w.2.2.1 v0)), (1, .ref (w.2.2.1 v1)), (2, .int v2)] → W p l e ({ frames := 0, cells := 0, slots := 0, locals := 0 } : Room) s m args below meth c H locs 0 0 (MQ below (mc_Q none (mc_B mc_k 152 w Iz R) (mc_A 152 w)) args s 0 0 (mc_A 152 w)) (F0 m 2 ls []) := by
  intro n
  induction n with
  | zero =>
    intro I v0 v1 v2 h
    cases h
  | succ n ih =>
    intro I v0 v1 v2 h
    exact bk_X7_copyFrom_B2 C hr hlk K  ih I v0 v1 v2 h
set_option maxHeartbeats 4000000 in
set_option maxRecDepth 100000 in
theorem ct_X7_copyFrom (l : Launch) {w : mc_w} {I : Nat → Nat → Int32} {R : Nat → Nat → Option Nat} {F : Nat} {v0 : Nat} {v1 : Nat} (kv0 : mc_k v0 = 7) (kv1 : mc_k v1 = 7) {Iz : Nat → Nat → Int32} (h : mi_X7_copyFrom F I v0 v1 = some Iz) : Met l yX7_copyFrom (Cond.code yX7_copyFrom cX7_copyFrom 3 none :: mc_big) ({ frames := 0, cells := 0, slots := 0, locals := 0 } : Room) (va_Pc [.ref (w.2.2.1 v0), .ref (w.2.2.1 v1)] (mc_B mc_k 152 w I R)) (mc_Q none (mc_B mc_k 152 w Iz R) (mc_A 152 w)) 0 0 (mc_A 152 w) := by
  refine Met.ofW (cc := cX7_copyFrom) (maxL := 3) (ret := none) (by decide) rfl ?_
  intro p e s m args below meth c s₁ B hml hv
  obtain ⟨rfl, hP, K⟩ := hv
  have hown : s.vm.findClass RX7 = some m.cls := findClass_of_methodNamed B.named
  have C : CallFix p m c cX7_copyFrom 3 s _ mc_big RX7 := ⟨B.exec, B.bytes, hml, hown, fun w hw => atoms_spec B.pre w (List.mem_cons_of_mem _ hw)⟩
  have hx := C.1
  have hb := C.2.1
  have hC := And.intro C.1 C.2.1
  have hr := B.returns
  have hlk := B.notSynchronized
  have hS : va_S (mc_A 152 w) s.heap s.heap [] := va_S.rf
  have hl := lv_entry ([.ref (w.2.2.1 v0), .ref (w.2.2.1 v1)]) (n := 3) (Nat.le_of_ble_eq_true rfl)
  rw [lg_entry_eq]
  generalize (lg_sl ([.ref (w.2.2.1 v0), .ref (w.2.2.1 v1)]) ++ List.replicate (3 - (lg_sl ([.ref (w.2.2.1 v0), .ref (w.2.2.1 v1)])).length) Slot.unset).toArray = ls at hl ⊢
  have hl : lv_has ls 3 [(0, .ref (w.2.2.1 v0)), (1, .ref (w.2.2.1 v1))] := hl
  unfold mi_X7_copyFrom at h
  refine lv_iconst (v := 0) hx hb dX7_copyFrom_0 (by decide) ?_
  refine lv_istore_n (i := 2) (lv' := [(2, .int 0), (0, .ref (w.2.2.1 v0)), (1, .ref (w.2.2.1 v1))]) hx hb dX7_copyFrom_1 rfl hl (by decide) rfl (fun ls hl => ?_)
  exact bk_X7_copyFrom_L2 C hr hlk K  F I v0 v1 0 h kv0 kv1 hP hS (lv_sub hl [1, 2, 0] rfl)
set_option maxHeartbeats 4000000 in
set_option maxRecDepth 100000 in
theorem bk_X4_copyFrom_B2 {p : Program} {l : Launch} {e : Env} {s : State} {m : MethodId} {args : Array Value} {below : List Frame} {meth : Method} {c : Code} (C : CallFix p m c cX4_copyFrom 3 s args mc_big RX4) (hr : meth.sig.returnType = none) (hlk : meth.locks = false) {w : mc_w} (K : mc_K mc_k 152 w s) {R : Nat → Nat → Option Nat} {F : Nat} {Iz : Nat → Nat → Int32} {k2 : (Nat → Nat → Int32) → Nat → Nat → Int32 → (Option ((Nat → Nat → Int32)))} (hk2 : ∀ (I : Nat → Nat → Int32) (v0 : Nat) (v1 : Nat) (v2 : Int32), k2 I v0 v1 v2 = some Iz → (mc_k v0 = 4) → (mc_k v1 = 4) → ∀ {H : Heap} {locs : List Loc} {ls : Array Slot}, mc_P mc_k 152 w I R H → va_S (mc_A 152 w) s.heap H locs → lv_has ls 3 [(0, .ref (w.2.2.1 v0)), (1, .ref (w.2.2.1 v1)), (2, .int v2)] → W p l e ({ frames := 0, cells := 0, slots := 0, locals := 0 } : Room) s m args below meth c H locs 0 0 (MQ below (mc_Q none (mc_B mc_k 152 w Iz R) (mc_A 152 w)) args s 0 0 (mc_A 152 w)) (F0 m 2 ls [])) : ∀ (I : Nat → Nat → Int32) (v0 : Nat) (v1 : Nat) (v2 : Int32), mi_X4_copyFrom_B2 k2 F I v0 v1 v2 = some Iz → (mc_k v0 = 4) → (mc_k v1 = 4) → ∀ {H : Heap} {locs : List Loc} {ls : Array Slot}, mc_P mc_k 152 w I R H → va_S (mc_A 152 w) s.heap H locs → lv_has ls 3 [(0, .ref (w.2.2.1 v0)), (1, .ref (w.2.2.1 v1)), (2, .int v2)] → W p l e ({ frames := 0, cells := 0, slots := 0, locals := 0 } : Room) s m args below meth c H locs 0 0 (MQ below (mc_Q none (mc_B mc_k 152 w Iz R) (mc_A 152 w)) args s 0 0 (mc_A 152 w)) (F0 m 2 ls []) := by
  intro I v0 v1 v2 h kv0 kv1 H locs ls hP hS hl
  have hx := C.1
  have hb := C.2.1
  have hC := And.intro C.1 C.2.1
  unfold mi_X4_copyFrom_B2 at h
  refine lv_iload_n hx hb dX4_copyFrom_2 rfl (lv_at hl 2 rfl) ?_
  refine lv_bipush (v := 12) hx hb dX4_copyFrom_3 (by decide) ?_
  refine lv_icmp_ge (tgt := 26) hx hb dX4_copyFrom_5 (by decide) (fun c1 => ?_) (fun c1 => ?_)
  · replace h := mc_it h c1
    refine lv_aload_n hx hb dX4_copyFrom_26 rfl (lv_at hl 0 rfl) ?_
    refine lv_aload_n hx hb dX4_copyFrom_27 rfl (lv_at hl 1 rfl) ?_
    refine mf_X4_15 C K hP kv1 dX4_copyFrom_28 ?_
    obtain ⟨I2, eI2, h⟩ := mc_bn_e h
    refine mp_X4_15 C K hP hS kv0 eI2 dX4_copyFrom_31 (fun H locs hP hS => ?_)
    refine lv_aload_n hx hb dX4_copyFrom_34 rfl (lv_at hl 0 rfl) ?_
    refine lv_aload_n hx hb dX4_copyFrom_35 rfl (lv_at hl 1 rfl) ?_
    refine mf_X4_19 C K hP kv1 dX4_copyFrom_36 ?_
    obtain ⟨I3, eI3, h⟩ := mc_bn_e h
    refine mp_X4_19 C K hP hS kv0 eI3 dX4_copyFrom_39 (fun H locs hP hS => ?_)
    refine lv_aload_n hx hb dX4_copyFrom_42 rfl (lv_at hl 0 rfl) ?_
    refine lv_aload_n hx hb dX4_copyFrom_43 rfl (lv_at hl 1 rfl) ?_
    refine mf_X4_22 C K hP kv1 dX4_copyFrom_44 ?_
    obtain ⟨I4, eI4, h⟩ := mc_bn_e h
    refine mp_X4_22 C K hP hS kv0 eI4 dX4_copyFrom_47 (fun H locs hP hS => ?_)
    refine lv_aload_n hx hb dX4_copyFrom_50 rfl (lv_at hl 0 rfl) ?_
    refine lv_aload_n hx hb dX4_copyFrom_51 rfl (lv_at hl 1 rfl) ?_
    refine mf_X4_25 C K hP kv1 dX4_copyFrom_52 ?_
    obtain ⟨I5, eI5, h⟩ := mc_bn_e h
    refine mp_X4_25 C K hP hS kv0 eI5 dX4_copyFrom_55 (fun H locs hP hS => ?_)
    refine lv_aload_n hx hb dX4_copyFrom_58 rfl (lv_at hl 0 rfl) ?_
    refine lv_aload_n hx hb dX4_copyFrom_59 rfl (lv_at hl 1 rfl) ?_
    refine mf_X4_28 C K hP kv1 dX4_copyFrom_60 ?_
    obtain ⟨I6, eI6, h⟩ := mc_bn_e h
    refine mp_X4_28 C K hP hS kv0 eI6 dX4_copyFrom_63 (fun H locs hP hS => ?_)
    refine lv_aload_n hx hb dX4_copyFrom_66 rfl (lv_at hl 0 rfl) ?_
    refine lv_aload_n hx hb dX4_copyFrom_67 rfl (lv_at hl 1 rfl) ?_
    refine mf_X4_31 C K hP kv1 dX4_copyFrom_68 ?_
    obtain ⟨I7, eI7, h⟩ := mc_bn_e h
    refine mp_X4_31 C K hP hS kv0 eI7 dX4_copyFrom_71 (fun H locs hP hS => ?_)
    cases h
    exact mt_v hC hr hlk K hP hS dX4_copyFrom_74
  · replace h := mc_ie h c1
    refine lv_aload_n hx hb dX4_copyFrom_8 rfl (lv_at hl 0 rfl) ?_
    refine mf_X4_9 C K hP kv0 dX4_copyFrom_9 ?_
    refine lv_iload_n hx hb dX4_copyFrom_12 rfl (lv_at hl 2 rfl) ?_
    refine lv_aload_n hx hb dX4_copyFrom_13 rfl (lv_at hl 1 rfl) ?_
    refine mf_X4_9 C K hP kv1 dX4_copyFrom_14 ?_
    refine lv_iload_n hx hb dX4_copyFrom_17 rfl (lv_at hl 2 rfl) ?_
    obtain ⟨g8, h⟩ := mc_gd h
    refine ma_l14 hC K hP (kk_4_1 kv1) g8 dX4_copyFrom_18 ?_
    obtain ⟨g9, h⟩ := mc_gd h
    obtain ⟨I10, eI10, h⟩ := mc_bn_e h
    refine ma_s14 hC K hP hS (kk_4_1 kv0) g9 eI10 dX4_copyFrom_19 (fun H locs hP hS => ?_)
    obtain ⟨x11, ex11, h⟩ := mc_bn_e h
    refine lv_iinc (v := x11) (lv' := [(2, .int x11), (0, .ref (w.2.2.1 v0)), (1, .ref (w.2.2.1 v1))]) hx hb dX4_copyFrom_20 hl (k := 2) rfl (by rw [ex11]; rfl) (by decide) rfl (fun ls hl => ?_)
    refine lv_goto (tgt := 2) hx hb dX4_copyFrom_23 (by decide) ?_
    exact hk2 I10 v0 v1 x11 h kv0 kv1 hP hS (lv_sub hl [1, 2, 0] rfl)
theorem bk_X4_copyFrom_L2 {p : Program} {l : Launch} {e : Env} {s : State} {m : MethodId} {args : Array Value} {below : List Frame} {meth : Method} {c : Code} (C : CallFix p m c cX4_copyFrom 3 s args mc_big RX4) (hr : meth.sig.returnType = none) (hlk : meth.locks = false) {w : mc_w} (K : mc_K mc_k 152 w s) {R : Nat → Nat → Option Nat} {F : Nat} {Iz : Nat → Nat → Int32} : ∀ n : Nat, ∀ (I : Nat → Nat → Int32) (v0 : Nat) (v1 : Nat) (v2 : Int32), mi_X4_copyFrom_L2 F n I v0 v1 v2 = some Iz → (mc_k v0 = 4) → (mc_k v1 = 4) → ∀ {H : Heap} {locs : List Loc} {ls : Array Slot}, mc_P mc_k 152 w I R H → va_S (mc_A 152 w) s.heap H locs → lv_has ls 3 [(0, .ref (w.2.2.1 v0)), (1, .ref (w.2.2.1 v1)), (2, .int v2)] → W p l e ({ frames := 0, cells := 0, slots := 0, locals := 0 } : Room) s m args below meth c H locs 0 0 (MQ below (mc_Q none (mc_B mc_k 152 w Iz R) (mc_A 152 w)) args s 0 0 (mc_A 152 w)) (F0 m 2 ls []) := by
  intro n
  induction n with
  | zero =>
    intro I v0 v1 v2 h
    cases h
  | succ n ih =>
    intro I v0 v1 v2 h
    exact bk_X4_copyFrom_B2 C hr hlk K  ih I v0 v1 v2 h
set_option maxHeartbeats 4000000 in
set_option maxRecDepth 100000 in
theorem ct_X4_copyFrom (l : Launch) {w : mc_w} {I : Nat → Nat → Int32} {R : Nat → Nat → Option Nat} {F : Nat} {v0 : Nat} {v1 : Nat} (kv0 : mc_k v0 = 4) (kv1 : mc_k v1 = 4) {Iz : Nat → Nat → Int32} (h : mi_X4_copyFrom F I v0 v1 = some Iz) : Met l yX4_copyFrom (Cond.code yX4_copyFrom cX4_copyFrom 3 none :: mc_big) ({ frames := 0, cells := 0, slots := 0, locals := 0 } : Room) (va_Pc [.ref (w.2.2.1 v0), .ref (w.2.2.1 v1)] (mc_B mc_k 152 w I R)) (mc_Q none (mc_B mc_k 152 w Iz R) (mc_A 152 w)) 0 0 (mc_A 152 w) := by
  refine Met.ofW (cc := cX4_copyFrom) (maxL := 3) (ret := none) (by decide) rfl ?_
  intro p e s m args below meth c s₁ B hml hv
  obtain ⟨rfl, hP, K⟩ := hv
  have hown : s.vm.findClass RX4 = some m.cls := findClass_of_methodNamed B.named
  have C : CallFix p m c cX4_copyFrom 3 s _ mc_big RX4 := ⟨B.exec, B.bytes, hml, hown, fun w hw => atoms_spec B.pre w (List.mem_cons_of_mem _ hw)⟩
  have hx := C.1
  have hb := C.2.1
  have hC := And.intro C.1 C.2.1
  have hr := B.returns
  have hlk := B.notSynchronized
  have hS : va_S (mc_A 152 w) s.heap s.heap [] := va_S.rf
  have hl := lv_entry ([.ref (w.2.2.1 v0), .ref (w.2.2.1 v1)]) (n := 3) (Nat.le_of_ble_eq_true rfl)
  rw [lg_entry_eq]
  generalize (lg_sl ([.ref (w.2.2.1 v0), .ref (w.2.2.1 v1)]) ++ List.replicate (3 - (lg_sl ([.ref (w.2.2.1 v0), .ref (w.2.2.1 v1)])).length) Slot.unset).toArray = ls at hl ⊢
  have hl : lv_has ls 3 [(0, .ref (w.2.2.1 v0)), (1, .ref (w.2.2.1 v1))] := hl
  unfold mi_X4_copyFrom at h
  refine lv_iconst (v := 0) hx hb dX4_copyFrom_0 (by decide) ?_
  refine lv_istore_n (i := 2) (lv' := [(2, .int 0), (0, .ref (w.2.2.1 v0)), (1, .ref (w.2.2.1 v1))]) hx hb dX4_copyFrom_1 rfl hl (by decide) rfl (fun ls hl => ?_)
  exact bk_X4_copyFrom_L2 C hr hlk K  F I v0 v1 0 h kv0 kv1 hP hS (lv_sub hl [1, 2, 0] rfl)
set_option maxHeartbeats 4000000 in
set_option maxRecDepth 100000 in
theorem ct_X5_bottleAt (l : Launch) {w : mc_w} {I : Nat → Nat → Int32} {R : Nat → Nat → Option Nat} {v0 : Nat} {v1 : Int32} (kv0 : mc_k v0 = 5) {rz : Option Nat} (h : mi_X5_bottleAt I R v0 v1 = some rz) : Met l yX5_bottleAt (Cond.code yX5_bottleAt cX5_bottleAt 2 (some ((.object "MessengerCasts$Bottle"))) :: mc_big) ({ frames := 0, cells := 0, slots := 0, locals := 0 } : Room) (va_Pc [.ref (w.2.2.1 v0), .int v1] (mc_B mc_k 152 w I R)) (mc_Q (some (va_re w.2.2.1 rz)) (fun t => mc_B mc_k 152 w I R t ∧ (∀ b, rz = some b → mc_k b = 0)) (mc_A 152 w)) 0 0 (mc_A 152 w) := by
  refine Met.ofW (cc := cX5_bottleAt) (maxL := 2) (ret := (some ((.object "MessengerCasts$Bottle")))) (by decide) rfl ?_
  intro p e s m args below meth c s₁ B hml hv
  obtain ⟨rfl, hP, K⟩ := hv
  have hown : s.vm.findClass RX5 = some m.cls := findClass_of_methodNamed B.named
  have C : CallFix p m c cX5_bottleAt 2 s _ mc_big RX5 := ⟨B.exec, B.bytes, hml, hown, fun w hw => atoms_spec B.pre w (List.mem_cons_of_mem _ hw)⟩
  have hx := C.1
  have hb := C.2.1
  have hC := And.intro C.1 C.2.1
  have hr := B.returns
  have hlk := B.notSynchronized
  have hS : va_S (mc_A 152 w) s.heap s.heap [] := va_S.rf
  have hl := lv_entry ([.ref (w.2.2.1 v0), .int v1]) (n := 2) (Nat.le_of_ble_eq_true rfl)
  rw [lg_entry_eq]
  generalize (lg_sl ([.ref (w.2.2.1 v0), .int v1]) ++ List.replicate (2 - (lg_sl ([.ref (w.2.2.1 v0), .int v1])).length) Slot.unset).toArray = ls at hl ⊢
  have hl : lv_has ls 2 [(0, .ref (w.2.2.1 v0)), (1, .int v1)] := hl
  unfold mi_X5_bottleAt at h
  refine lv_iload_n hx hb dX5_bottleAt_0 rfl (lv_at hl 1 rfl) ?_
  refine lv_if_lt (tgt := 27) hx hb dX5_bottleAt_1 (by decide) (fun c1 => ?_) (fun c1 => ?_)
  · replace h := mc_it h c1
    refine lv_null hx hb dX5_bottleAt_27 ?_
    cases h
    exact mt_a (x := none) hC hr hlk K hP hS (fun _ h => nomatch h) dX5_bottleAt_28
  · replace h := mc_ie h c1
    refine lv_iload_n hx hb dX5_bottleAt_4 rfl (lv_at hl 1 rfl) ?_
    refine lv_aload_n hx hb dX5_bottleAt_5 rfl (lv_at hl 0 rfl) ?_
    refine mf_X5_56 C K hP kv0 dX5_bottleAt_6 ?_
    refine lv_icmp_ge (tgt := 27) hx hb dX5_bottleAt_9 (by decide) (fun c2 => ?_) (fun c2 => ?_)
    · replace h := mc_it h c2
      refine lv_null hx hb dX5_bottleAt_27 ?_
      cases h
      exact mt_a (x := none) hC hr hlk K hP hS (fun _ h => nomatch h) dX5_bottleAt_28
    · replace h := mc_ie h c2
      refine lv_iload_n hx hb dX5_bottleAt_12 rfl (lv_at hl 1 rfl) ?_
      refine lv_bipush (v := 10) hx hb dX5_bottleAt_13 (by decide) ?_
      refine lv_icmp_ge (tgt := 27) hx hb dX5_bottleAt_15 (by decide) (fun c3 => ?_) (fun c3 => ?_)
      · replace h := mc_it h c3
        refine lv_null hx hb dX5_bottleAt_27 ?_
        cases h
        exact mt_a (x := none) hC hr hlk K hP hS (fun _ h => nomatch h) dX5_bottleAt_28
      · replace h := mc_ie h c3
        refine lv_aload_n hx hb dX5_bottleAt_18 rfl (lv_at hl 0 rfl) ?_
        refine mf_X5_34 C K hP kv0 dX5_bottleAt_19 ?_
        refine lv_iload_n hx hb dX5_bottleAt_22 rfl (lv_at hl 1 rfl) ?_
        obtain ⟨g4, h⟩ := mc_gd h
        obtain ⟨y5, ey5, h⟩ := mc_bn_e h
        have ty5 : ∀ b, y5 = some b → mc_k b = 0 := fun b hb => (hP.2 _ _ b (ey5.symm.trans hb)).1 (kk_5_7 kv0)
        refine ma_l12 hC K hP (kk_5_7 kv0) g4 dX5_bottleAt_23 ?_
        refine mv_topr ey5 ?_
        refine lv_goto (tgt := 28) hx hb dX5_bottleAt_24 (by decide) ?_
        cases h
        exact mt_a hC hr hlk K hP hS ty5 dX5_bottleAt_28
set_option maxHeartbeats 4000000 in
set_option maxRecDepth 100000 in
theorem bk_X5_copyFrom_B67 {p : Program} {l : Launch} {e : Env} {s : State} {m : MethodId} {args : Array Value} {below : List Frame} {meth : Method} {c : Code} (C : CallFix p m c cX5_copyFrom 5 s args mc_big RX5) (hr : meth.sig.returnType = none) (hlk : meth.locks = false) {w : mc_w} (K : mc_K mc_k 152 w s) {R : Nat → Nat → Option Nat} {F : Nat} {Iz : Nat → Nat → Int32} {k67 : (Nat → Nat → Int32) → (Nat → Nat → Option Nat) → Nat → Nat → Int32 → (Option ((Nat → Nat → Int32)))} (hk67 : ∀ (I : Nat → Nat → Int32) (v0 : Nat) (v1 : Nat) (v2 : Int32), k67 I R v0 v1 v2 = some Iz → (mc_k v0 = 5) → (mc_k v1 = 5) → ∀ {H : Heap} {locs : List Loc} {ls : Array Slot}, mc_P mc_k 152 w I R H → va_S (mc_A 152 w) s.heap H locs → lv_has ls 5 [(0, .ref (w.2.2.1 v0)), (1, .ref (w.2.2.1 v1)), (2, .int v2)] → W p l e ({ frames := 1, cells := 0, slots := 0, locals := 22 } : Room) s m args below meth c H locs 0 0 (MQ below (mc_Q none (mc_B mc_k 152 w Iz R) (mc_A 152 w)) args s 0 0 (mc_A 152 w)) (F0 m 67 ls [])) : ∀ (I : Nat → Nat → Int32) (v0 : Nat) (v1 : Nat) (v2 : Int32), mi_X5_copyFrom_B67 k67 F I R v0 v1 v2 = some Iz → (mc_k v0 = 5) → (mc_k v1 = 5) → ∀ {H : Heap} {locs : List Loc} {ls : Array Slot}, mc_P mc_k 152 w I R H → va_S (mc_A 152 w) s.heap H locs → lv_has ls 5 [(0, .ref (w.2.2.1 v0)), (1, .ref (w.2.2.1 v1)), (2, .int v2)] → W p l e ({ frames := 1, cells := 0, slots := 0, locals := 22 } : Room) s m args below meth c H locs 0 0 (MQ below (mc_Q none (mc_B mc_k 152 w Iz R) (mc_A 152 w)) args s 0 0 (mc_A 152 w)) (F0 m 67 ls []) := by
  intro I v0 v1 v2 h kv0 kv1 H locs ls hP hS hl
  have hx := C.1
  have hb := C.2.1
  have hC := And.intro C.1 C.2.1
  unfold mi_X5_copyFrom_B67 at h
  refine lv_iload_n hx hb dX5_copyFrom_67 rfl (lv_at hl 2 rfl) ?_
  refine lv_aload_n hx hb dX5_copyFrom_68 rfl (lv_at hl 0 rfl) ?_
  refine mf_X5_56 C K hP kv0 dX5_copyFrom_69 ?_
  refine lv_icmp_ge (tgt := 109) hx hb dX5_copyFrom_72 (by decide) (fun c11 => ?_) (fun c11 => ?_)
  · replace h := mc_it h c11
    cases h
    exact mt_v hC hr hlk K hP hS dX5_copyFrom_109
  · replace h := mc_ie h c11
    refine lv_aload_n hx hb dX5_copyFrom_75 rfl (lv_at hl 0 rfl) ?_
    refine lv_iload_n hx hb dX5_copyFrom_76 rfl (lv_at hl 2 rfl) ?_
    obtain ⟨r12, e13, h⟩ := mc_ob_e h
    refine mg_Vr (As := [.int v2]) (rest := []) (ct_X5_bottleAt l (w := w) (I := I) (R := R) kv0 e13) C K hP hS hl.1 kv0 (by decide) rfl rfl ml_X5_62 wy_X5_bottleAt wd_X5_bottleAt rfl rfl rfl ⟨Nat.le_of_ble_eq_true rfl, Nat.le_of_ble_eq_true rfl⟩ (Nat.le_of_ble_eq_true rfl) ⟨Nat.zero_le _, Nat.zero_le _⟩ dX5_copyFrom_77 (fun H locs hP tr12 hS => ?_)
    refine mv_astore_n (i := 3) (lv' := [(3, va_re w.2.2.1 r12), (0, .ref (w.2.2.1 v0)), (1, .ref (w.2.2.1 v1)), (2, .int v2)]) hC dX5_copyFrom_80 rfl hl (by decide) rfl (fun ls hl => ?_)
    refine lv_aload_n hx hb dX5_copyFrom_81 rfl (lv_at hl 2 rfl) ?_
    refine lv_iload_n hx hb dX5_copyFrom_82 rfl (lv_at hl 3 rfl) ?_
    obtain ⟨r14, e15, h⟩ := mc_ob_e h
    refine mg_Vr (As := [.int v2]) (rest := []) (ct_X5_bottleAt l (w := w) (I := I) (R := R) kv1 e15) C K hP hS hl.1 kv1 (by decide) rfl rfl ml_X5_62 wy_X5_bottleAt wd_X5_bottleAt rfl rfl rfl ⟨Nat.le_of_ble_eq_true rfl, Nat.le_of_ble_eq_true rfl⟩ (Nat.le_of_ble_eq_true rfl) ⟨Nat.zero_le _, Nat.zero_le _⟩ dX5_copyFrom_83 (fun H locs hP tr14 hS => ?_)
    refine mv_astore (i := 4) (lv' := [(4, va_re w.2.2.1 r14), (3, va_re w.2.2.1 r12), (0, .ref (w.2.2.1 v0)), (1, .ref (w.2.2.1 v1)), (2, .int v2)]) hC dX5_copyFrom_86 hl (by decide) (by simp [mv_cat]) (fun ls hl => ?_)
    refine mv_aload_n hC dX5_copyFrom_88 rfl (lv_at hl 1 rfl) ?_
    rcases r12 with _ | b16
    · replace h := mc_om_n h
      refine lv_ifnullN (tgt := 103) hx hb dX5_copyFrom_89 (by decide) ?_
      have hl : lv_has ls 5 [(4, va_re w.2.2.1 r14), (3, va_re w.2.2.1 none), (0, .ref (w.2.2.1 v0)), (1, .ref (w.2.2.1 v1)), (2, .int v2)] := hl
      obtain ⟨x17, ex17, h⟩ := mc_bn_e h
      refine lv_iinc (v := x17) (lv' := [(2, .int x17), (4, va_re w.2.2.1 r14), (3, va_re w.2.2.1 none), (0, .ref (w.2.2.1 v0)), (1, .ref (w.2.2.1 v1))]) hx hb dX5_copyFrom_103 hl (k := 4) rfl (by rw [ex17]; rfl) (by decide) rfl (fun ls hl => ?_)
      refine lv_goto (tgt := 67) hx hb dX5_copyFrom_106 (by decide) ?_
      exact hk67 I v0 v1 x17 h kv0 kv1 hP hS (lv_sub hl [3, 4, 0] rfl)
    · replace h := mc_om_s h
      have kb16 := tr12 b16 rfl
      refine lv_ifnull hx hb dX5_copyFrom_89 ?_
      have hl : lv_has ls 5 [(4, va_re w.2.2.1 r14), (3, .ref (w.2.2.1 b16)), (0, .ref (w.2.2.1 v0)), (1, .ref (w.2.2.1 v1)), (2, .int v2)] := hl
      refine mv_aload hC dX5_copyFrom_92 (lv_at hl 0 rfl) ?_
      rcases r14 with _ | b18
      · replace h := mc_om_n h
        refine lv_ifnullN (tgt := 103) hx hb dX5_copyFrom_94 (by decide) ?_
        have hl : lv_has ls 5 [(4, va_re w.2.2.1 none), (3, .ref (w.2.2.1 b16)), (0, .ref (w.2.2.1 v0)), (1, .ref (w.2.2.1 v1)), (2, .int v2)] := hl
        obtain ⟨x19, ex19, h⟩ := mc_bn_e h
        refine lv_iinc (v := x19) (lv' := [(2, .int x19), (4, va_re w.2.2.1 none), (3, .ref (w.2.2.1 b16)), (0, .ref (w.2.2.1 v0)), (1, .ref (w.2.2.1 v1))]) hx hb dX5_copyFrom_103 hl (k := 4) rfl (by rw [ex19]; rfl) (by decide) rfl (fun ls hl => ?_)
        refine lv_goto (tgt := 67) hx hb dX5_copyFrom_106 (by decide) ?_
        exact hk67 I v0 v1 x19 h kv0 kv1 hP hS (lv_sub hl [3, 4, 0] rfl)
      · replace h := mc_om_s h
        have kb18 := tr14 b18 rfl
        refine lv_ifnull hx hb dX5_copyFrom_94 ?_
        have hl : lv_has ls 5 [(4, .ref (w.2.2.1 b18)), (3, .ref (w.2.2.1 b16)), (0, .ref (w.2.2.1 v0)), (1, .ref (w.2.2.1 v1)), (2, .int v2)] := hl
        refine lv_aload_n hx hb dX5_copyFrom_97 rfl (lv_at hl 1 rfl) ?_
        refine lv_aload hx hb dX5_copyFrom_98 (lv_at hl 0 rfl) ?_
        obtain ⟨I20, e21, h⟩ := mc_ob_e h
        refine mg_Vv (As := [.ref (w.2.2.1 b18)]) (rest := []) (ct_X0_copyFrom l (w := w) (I := I) (R := R) kb16 kb18 e21) C K hP hS hl.1 kb16 (by decide) rfl rfl ml_X5_66 wy_X0_copyFrom wd_X0_copyFrom rfl rfl rfl ⟨Nat.le_of_ble_eq_true rfl, Nat.le_of_ble_eq_true rfl⟩ (Nat.le_of_ble_eq_true rfl) ⟨Nat.zero_le _, Nat.zero_le _⟩ dX5_copyFrom_100 (fun H locs hP hS => ?_)
        obtain ⟨x22, ex22, h⟩ := mc_bn_e h
        refine lv_iinc (v := x22) (lv' := [(2, .int x22), (4, .ref (w.2.2.1 b18)), (3, .ref (w.2.2.1 b16)), (0, .ref (w.2.2.1 v0)), (1, .ref (w.2.2.1 v1))]) hx hb dX5_copyFrom_103 hl (k := 4) rfl (by rw [ex22]; rfl) (by decide) rfl (fun ls hl => ?_)
        refine lv_goto (tgt := 67) hx hb dX5_copyFrom_106 (by decide) ?_
        exact hk67 I20 v0 v1 x22 h kv0 kv1 hP hS (lv_sub hl [3, 4, 0] rfl)
theorem bk_X5_copyFrom_L67 {p : Program} {l : Launch} {e : Env} {s : State} {m : MethodId} {args : Array Value} {below : List Frame} {meth : Method} {c : Code} (C : CallFix p m c cX5_copyFrom 5 s args mc_big RX5) (hr : meth.sig.returnType = none) (hlk : meth.locks = false) {w : mc_w} (K : mc_K mc_k 152 w s) {R : Nat → Nat → Option Nat} {F : Nat} {Iz : Nat → Nat → Int32} : ∀ n : Nat, ∀ (I : Nat → Nat → Int32) (v0 : Nat) (v1 : Nat) (v2 : Int32), mi_X5_copyFrom_L67 F n I R v0 v1 v2 = some Iz → (mc_k v0 = 5) → (mc_k v1 = 5) → ∀ {H : Heap} {locs : List Loc} {ls : Array Slot}, mc_P mc_k 152 w I R H → va_S (mc_A 152 w) s.heap H locs → lv_has ls 5 [(0, .ref (w.2.2.1 v0)), (1, .ref (w.2.2.1 v1)), (2, .int v2)] → W p l e ({ frames := 1, cells := 0, slots := 0, locals := 22 } : Room) s m args below meth c H locs 0 0 (MQ below (mc_Q none (mc_B mc_k 152 w Iz R) (mc_A 152 w)) args s 0 0 (mc_A 152 w)) (F0 m 67 ls []) := by
  intro n
  induction n with
  | zero =>
    intro I v0 v1 v2 h
    cases h
  | succ n ih =>
    intro I v0 v1 v2 h
    exact bk_X5_copyFrom_B67 C hr hlk K  ih I v0 v1 v2 h
set_option maxHeartbeats 4000000 in
set_option maxRecDepth 100000 in
theorem ct_X5_copyFrom (l : Launch) {w : mc_w} {I : Nat → Nat → Int32} {R : Nat → Nat → Option Nat} {F : Nat} {v0 : Nat} {v1 : Nat} (kv0 : mc_k v0 = 5) (kv1 : mc_k v1 = 5) {Iz : Nat → Nat → Int32} (h : mi_X5_copyFrom F I R v0 v1 = some Iz) : Met l yX5_copyFrom (Cond.code yX5_copyFrom cX5_copyFrom 5 none :: mc_big) ({ frames := 1, cells := 0, slots := 0, locals := 22 } : Room) (va_Pc [.ref (w.2.2.1 v0), .ref (w.2.2.1 v1)] (mc_B mc_k 152 w I R)) (mc_Q none (mc_B mc_k 152 w Iz R) (mc_A 152 w)) 0 0 (mc_A 152 w) := by
  refine Met.ofW (cc := cX5_copyFrom) (maxL := 5) (ret := none) (by decide) rfl ?_
  intro p e s m args below meth c s₁ B hml hv
  obtain ⟨rfl, hP, K⟩ := hv
  have hown : s.vm.findClass RX5 = some m.cls := findClass_of_methodNamed B.named
  have C : CallFix p m c cX5_copyFrom 5 s _ mc_big RX5 := ⟨B.exec, B.bytes, hml, hown, fun w hw => atoms_spec B.pre w (List.mem_cons_of_mem _ hw)⟩
  have hx := C.1
  have hb := C.2.1
  have hC := And.intro C.1 C.2.1
  have hr := B.returns
  have hlk := B.notSynchronized
  have hS : va_S (mc_A 152 w) s.heap s.heap [] := va_S.rf
  have hl := lv_entry ([.ref (w.2.2.1 v0), .ref (w.2.2.1 v1)]) (n := 5) (Nat.le_of_ble_eq_true rfl)
  rw [lg_entry_eq]
  generalize (lg_sl ([.ref (w.2.2.1 v0), .ref (w.2.2.1 v1)]) ++ List.replicate (5 - (lg_sl ([.ref (w.2.2.1 v0), .ref (w.2.2.1 v1)])).length) Slot.unset).toArray = ls at hl ⊢
  have hl : lv_has ls 5 [(0, .ref (w.2.2.1 v0)), (1, .ref (w.2.2.1 v1))] := hl
  unfold mi_X5_copyFrom at h
  refine lv_aload_n hx hb dX5_copyFrom_0 rfl (lv_at hl 0 rfl) ?_
  refine mf_X5_12 C K hP kv0 dX5_copyFrom_1 ?_
  refine lv_aload_n hx hb dX5_copyFrom_4 rfl (lv_at hl 1 rfl) ?_
  refine mf_X5_12 C K hP kv1 dX5_copyFrom_5 ?_
  obtain ⟨I1, e2, h⟩ := mc_ob_e h
  refine mg_Vv (As := [.ref (w.2.2.1 (v1 + 1))]) (rest := []) (ct_X1_copyFrom l (w := w) (I := I) (R := R) (kk_5_1 kv0) (kk_5_1 kv1) e2) C K hP hS hl.1 (kk_5_1 kv0) (by decide) rfl rfl ml_X5_46 wy_X1_copyFrom wd_X1_copyFrom rfl rfl rfl ⟨Nat.le_of_ble_eq_true rfl, Nat.le_of_ble_eq_true rfl⟩ (Nat.le_of_ble_eq_true rfl) ⟨Nat.zero_le _, Nat.zero_le _⟩ dX5_copyFrom_8 (fun H locs hP hS => ?_)
  refine lv_aload_n hx hb dX5_copyFrom_11 rfl (lv_at hl 0 rfl) ?_
  refine mf_X5_21 C K hP kv0 dX5_copyFrom_12 ?_
  refine lv_aload_n hx hb dX5_copyFrom_15 rfl (lv_at hl 1 rfl) ?_
  refine mf_X5_21 C K hP kv1 dX5_copyFrom_16 ?_
  obtain ⟨I3, e4, h⟩ := mc_ob_e h
  refine mg_Vv (As := [.ref (w.2.2.1 (v1 + 2))]) (rest := []) (ct_X7_copyFrom l (w := w) (I := I1) (R := R) (kk_5_2 kv0) (kk_5_2 kv1) e4) C K hP hS hl.1 (kk_5_2 kv0) (by decide) rfl rfl ml_X5_50 wy_X7_copyFrom wd_X7_copyFrom rfl rfl rfl ⟨Nat.le_of_ble_eq_true rfl, Nat.le_of_ble_eq_true rfl⟩ (Nat.le_of_ble_eq_true rfl) ⟨Nat.zero_le _, Nat.zero_le _⟩ dX5_copyFrom_19 (fun H locs hP hS => ?_)
  refine lv_aload_n hx hb dX5_copyFrom_22 rfl (lv_at hl 0 rfl) ?_
  refine mf_X5_28 C K hP kv0 dX5_copyFrom_23 ?_
  refine lv_aload_n hx hb dX5_copyFrom_26 rfl (lv_at hl 1 rfl) ?_
  refine mf_X5_28 C K hP kv1 dX5_copyFrom_27 ?_
  obtain ⟨I5, e6, h⟩ := mc_ob_e h
  refine mg_Vv (As := [.ref (w.2.2.1 (v1 + 5))]) (rest := []) (ct_X4_copyFrom l (w := w) (I := I3) (R := R) (kk_5_5 kv0) (kk_5_5 kv1) e6) C K hP hS hl.1 (kk_5_5 kv0) (by decide) rfl rfl ml_X5_53 wy_X4_copyFrom wd_X4_copyFrom rfl rfl rfl ⟨Nat.le_of_ble_eq_true rfl, Nat.le_of_ble_eq_true rfl⟩ (Nat.le_of_ble_eq_true rfl) ⟨Nat.zero_le _, Nat.zero_le _⟩ dX5_copyFrom_30 (fun H locs hP hS => ?_)
  refine lv_aload_n hx hb dX5_copyFrom_33 rfl (lv_at hl 0 rfl) ?_
  refine lv_aload_n hx hb dX5_copyFrom_34 rfl (lv_at hl 1 rfl) ?_
  refine mf_X5_56 C K hP kv1 dX5_copyFrom_35 ?_
  obtain ⟨I7, eI7, h⟩ := mc_bn_e h
  refine mp_X5_56 C K hP hS kv0 eI7 dX5_copyFrom_38 (fun H locs hP hS => ?_)
  refine lv_aload_n hx hb dX5_copyFrom_41 rfl (lv_at hl 0 rfl) ?_
  refine lv_aload_n hx hb dX5_copyFrom_42 rfl (lv_at hl 1 rfl) ?_
  refine mf_X5_59 C K hP kv1 dX5_copyFrom_43 ?_
  obtain ⟨I8, eI8, h⟩ := mc_bn_e h
  refine mp_X5_59 C K hP hS kv0 eI8 dX5_copyFrom_46 (fun H locs hP hS => ?_)
  refine lv_aload_n hx hb dX5_copyFrom_49 rfl (lv_at hl 0 rfl) ?_
  refine lv_aload_n hx hb dX5_copyFrom_50 rfl (lv_at hl 1 rfl) ?_
  refine mf_X5_38 C K hP kv1 dX5_copyFrom_51 ?_
  obtain ⟨I9, eI9, h⟩ := mc_bn_e h
  refine mp_X5_38 C K hP hS kv0 eI9 dX5_copyFrom_54 (fun H locs hP hS => ?_)
  refine lv_aload_n hx hb dX5_copyFrom_57 rfl (lv_at hl 0 rfl) ?_
  refine lv_aload_n hx hb dX5_copyFrom_58 rfl (lv_at hl 1 rfl) ?_
  refine mf_X5_42 C K hP kv1 dX5_copyFrom_59 ?_
  obtain ⟨I10, eI10, h⟩ := mc_bn_e h
  refine mp_X5_42 C K hP hS kv0 eI10 dX5_copyFrom_62 (fun H locs hP hS => ?_)
  refine lv_iconst (v := 0) hx hb dX5_copyFrom_65 (by decide) ?_
  refine lv_istore_n (i := 2) (lv' := [(2, .int 0), (0, .ref (w.2.2.1 v0)), (1, .ref (w.2.2.1 v1))]) hx hb dX5_copyFrom_66 rfl hl (by decide) rfl (fun ls hl => ?_)
  exact bk_X5_copyFrom_L67 C hr hlk K  F I10 v0 v1 0 h kv0 kv1 hP hS (lv_sub hl [1, 2, 0] rfl)
set_option maxHeartbeats 4000000 in
set_option maxRecDepth 100000 in
theorem bk_X3_add_J40 {p : Program} {l : Launch} {e : Env} {s : State} {m : MethodId} {args : Array Value} {below : List Frame} {meth : Method} {c : Code} (C : CallFix p m c cX3_add 3 s args mc_big RX3) (hr : meth.sig.returnType = none) (hlk : meth.locks = false) {w : mc_w} (K : mc_K mc_k 152 w s) {F : Nat} {Iz : Nat → Nat → Int32} {Rz : Nat → Nat → Option Nat} : ∀ (I : Nat → Nat → Int32) (R : Nat → Nat → Option Nat) (v1 : Nat) (s0 : Option Nat), mi_X3_add_J40 F I R v1 s0 = some (Iz, Rz) → (mc_k v1 = 5) → (∀ b, s0 = some b → mc_k b = 5) → ∀ {H : Heap} {locs : List Loc} {ls : Array Slot}, mc_P mc_k 152 w I R H → va_S (mc_A 152 w) s.heap H locs → lv_has ls 3 [(0, .ref (w.2.2.1 145)), (1, .ref (w.2.2.1 v1))] → W p l e ({ frames := 2, cells := 0, slots := 0, locals := 46 } : Room) s m args below meth c H locs 0 0 (MQ below (mc_Q none (mc_B mc_k 152 w Iz Rz) (mc_A 152 w)) args s 0 0 (mc_A 152 w)) (F0 m 40 ls [va_re w.2.2.1 s0]) := by
  intro I R v1 s0 h kv1 ts0 H locs ls hP hS hl
  have hx := C.1
  have hb := C.2.1
  have hC := And.intro C.1 C.2.1
  unfold mi_X3_add_J40 at h
  refine mv_astore_n (i := 2) (lv' := [(2, va_re w.2.2.1 s0), (0, .ref (w.2.2.1 145)), (1, .ref (w.2.2.1 v1))]) hC dX3_add_40 rfl hl (by decide) rfl (fun ls hl => ?_)
  refine mv_aload_n hC dX3_add_41 rfl (lv_at hl 0 rfl) ?_
  rcases s0 with _ | b3
  · replace h := mc_om_n h
    refine lv_ifnullN (tgt := 60) hx hb dX3_add_42 (by decide) ?_
    have hl : lv_has ls 3 [(2, va_re w.2.2.1 none), (0, .ref (w.2.2.1 145)), (1, .ref (w.2.2.1 v1))] := hl
    cases h
    exact mt_v hC hr hlk K hP hS dX3_add_60
  · replace h := mc_om_s h
    have kb3 := ts0 b3 rfl
    refine lv_ifnull hx hb dX3_add_42 ?_
    have hl : lv_has ls 3 [(2, .ref (w.2.2.1 b3)), (0, .ref (w.2.2.1 145)), (1, .ref (w.2.2.1 v1))] := hl
    refine lv_aload_n hx hb dX3_add_45 rfl (lv_at hl 0 rfl) ?_
    refine lv_aload_n hx hb dX3_add_46 rfl (lv_at hl 2 rfl) ?_
    obtain ⟨I4, e5, h⟩ := mc_ob_e h
    refine mg_Vv (As := [.ref (w.2.2.1 v1)]) (rest := []) (ct_X5_copyFrom l (w := w) (I := I) (R := R) kb3 kv1 e5) C K hP hS hl.1 kb3 (by decide) rfl rfl ml_X3_25 wy_X5_copyFrom wd_X5_copyFrom rfl rfl rfl ⟨Nat.le_of_ble_eq_true rfl, Nat.le_of_ble_eq_true rfl⟩ (Nat.le_of_ble_eq_true rfl) ⟨Nat.zero_le _, Nat.zero_le _⟩ dX3_add_47 (fun H locs hP hS => ?_)
    refine lv_aload_n hx hb dX3_add_50 rfl (lv_at hl 1 rfl) ?_
    refine lv_dup hx hb dX3_add_51 rfl ?_
    refine mf_X3_18 C K hP kf_145 dX3_add_52 ?_
    refine lv_iconst (v := 1) hx hb dX3_add_55 (by decide) ?_
    refine lv_iadd hx hb dX3_add_56 ?_
    obtain ⟨I6, eI6, h⟩ := mc_bn_e h
    refine mp_X3_18 C K hP hS kf_145 eI6 dX3_add_57 (fun H locs hP hS => ?_)
    cases h
    exact mt_v hC hr hlk K hP hS dX3_add_60
set_option maxHeartbeats 4000000 in
set_option maxRecDepth 100000 in
theorem bk_X3_add_J12 {p : Program} {l : Launch} {e : Env} {s : State} {m : MethodId} {args : Array Value} {below : List Frame} {meth : Method} {c : Code} (C : CallFix p m c cX3_add 3 s args mc_big RX3) (hr : meth.sig.returnType = none) (hlk : meth.locks = false) {w : mc_w} (K : mc_K mc_k 152 w s) {F : Nat} {Iz : Nat → Nat → Int32} {Rz : Nat → Nat → Option Nat} : ∀ (I : Nat → Nat → Int32) (R : Nat → Nat → Option Nat) (v1 : Nat), mi_X3_add_J12 F I R v1 = some (Iz, Rz) → (mc_k v1 = 5) → ∀ {H : Heap} {locs : List Loc} {ls : Array Slot}, mc_P mc_k 152 w I R H → va_S (mc_A 152 w) s.heap H locs → lv_has ls 3 [(0, .ref (w.2.2.1 145)), (1, .ref (w.2.2.1 v1))] → W p l e ({ frames := 2, cells := 0, slots := 0, locals := 46 } : Room) s m args below meth c H locs 0 0 (MQ below (mc_Q none (mc_B mc_k 152 w Iz Rz) (mc_A 152 w)) args s 0 0 (mc_A 152 w)) (F0 m 12 ls []) := by
  intro I R v1 h kv1 H locs ls hP hS hl
  have hx := C.1
  have hb := C.2.1
  have hC := And.intro C.1 C.2.1
  unfold mi_X3_add_J12 at h
  refine lv_aload_n hx hb dX3_add_12 rfl (lv_at hl 0 rfl) ?_
  refine mf_X3_18 C K hP kf_145 dX3_add_13 ?_
  refine lv_if_lt (tgt := 39) hx hb dX3_add_16 (by decide) (fun c2 => ?_) (fun c2 => ?_)
  · replace h := mc_it h c2
    refine lv_null hx hb dX3_add_39 ?_
    exact bk_X3_add_J40 C hr hlk K  I R v1 none h kv1 (fun _ h => nomatch h) hP hS (lv_sub hl [0, 1] rfl)
  · replace h := mc_ie h c2
    refine lv_aload_n hx hb dX3_add_19 rfl (lv_at hl 0 rfl) ?_
    refine mf_X3_18 C K hP kf_145 dX3_add_20 ?_
    refine lv_iconst (v := 4) hx hb dX3_add_23 (by decide) ?_
    refine lv_icmp_ge (tgt := 39) hx hb dX3_add_24 (by decide) (fun c7 => ?_) (fun c7 => ?_)
    · replace h := mc_it h c7
      refine lv_null hx hb dX3_add_39 ?_
      exact bk_X3_add_J40 C hr hlk K  I R v1 none h kv1 (fun _ h => nomatch h) hP hS (lv_sub hl [0, 1] rfl)
    · replace h := mc_ie h c7
      refine lv_aload_n hx hb dX3_add_27 rfl (lv_at hl 0 rfl) ?_
      refine mf_X3_11 C K hP kf_145 dX3_add_28 ?_
      refine lv_aload_n hx hb dX3_add_31 rfl (lv_at hl 0 rfl) ?_
      refine mf_X3_18 C K hP kf_145 dX3_add_32 ?_
      obtain ⟨g8, h⟩ := mc_gd h
      obtain ⟨y9, ey9, h⟩ := mc_bn_e h
      have ty9 : ∀ b, y9 = some b → mc_k b = 5 := fun b hb => (hP.2 _ _ b (ey9.symm.trans hb)).2 kf_146
      refine ma_l13 hC K hP kf_146 g8 dX3_add_35 ?_
      refine mv_topr ey9 ?_
      refine lv_goto (tgt := 40) hx hb dX3_add_36 (by decide) ?_
      exact bk_X3_add_J40 C hr hlk K  I R v1 y9 h kv1 ty9 hP hS (lv_sub hl [0, 1] rfl)
set_option maxHeartbeats 4000000 in
set_option maxRecDepth 100000 in
theorem ct_X3_add (l : Launch) {w : mc_w} {I : Nat → Nat → Int32} {R : Nat → Nat → Option Nat} {F : Nat} {v1 : Nat} (kv1 : mc_k v1 = 5) {Iz : Nat → Nat → Int32} {Rz : Nat → Nat → Option Nat} (h : mi_X3_add F I R v1 = some (Iz, Rz)) : Met l yX3_add (Cond.code yX3_add cX3_add 3 none :: mc_big) ({ frames := 2, cells := 0, slots := 0, locals := 46 } : Room) (va_Pc [.ref (w.2.2.1 145), .ref (w.2.2.1 v1)] (mc_B mc_k 152 w I R)) (mc_Q none (mc_B mc_k 152 w Iz Rz) (mc_A 152 w)) 0 0 (mc_A 152 w) := by
  refine Met.ofW (cc := cX3_add) (maxL := 3) (ret := none) (by decide) rfl ?_
  intro p e s m args below meth c s₁ B hml hv
  obtain ⟨rfl, hP, K⟩ := hv
  have hown : s.vm.findClass RX3 = some m.cls := findClass_of_methodNamed B.named
  have C : CallFix p m c cX3_add 3 s _ mc_big RX3 := ⟨B.exec, B.bytes, hml, hown, fun w hw => atoms_spec B.pre w (List.mem_cons_of_mem _ hw)⟩
  have hx := C.1
  have hb := C.2.1
  have hC := And.intro C.1 C.2.1
  have hr := B.returns
  have hlk := B.notSynchronized
  have hS : va_S (mc_A 152 w) s.heap s.heap [] := va_S.rf
  have hl := lv_entry ([.ref (w.2.2.1 145), .ref (w.2.2.1 v1)]) (n := 3) (Nat.le_of_ble_eq_true rfl)
  rw [lg_entry_eq]
  generalize (lg_sl ([.ref (w.2.2.1 145), .ref (w.2.2.1 v1)]) ++ List.replicate (3 - (lg_sl ([.ref (w.2.2.1 145), .ref (w.2.2.1 v1)])).length) Slot.unset).toArray = ls at hl ⊢
  have hl : lv_has ls 3 [(0, .ref (w.2.2.1 145)), (1, .ref (w.2.2.1 v1))] := hl
  unfold mi_X3_add at h
  refine lv_aload_n hx hb dX3_add_0 rfl (lv_at hl 0 rfl) ?_
  refine mf_X3_18 C K hP kf_145 dX3_add_1 ?_
  refine lv_iconst (v := 4) hx hb dX3_add_4 (by decide) ?_
  refine lv_icmp_lt (tgt := 12) hx hb dX3_add_5 (by decide) (fun c1 => ?_) (fun c1 => ?_)
  · replace h := mc_it h c1
    exact bk_X3_add_J12 C hr hlk K  I R v1 h kv1 hP hS (lv_sub hl [0, 1] rfl)
  · replace h := mc_ie h c1
    refine lv_aload_n hx hb dX3_add_8 rfl (lv_at hl 0 rfl) ?_
    obtain ⟨I10, R11, e12, h⟩ := mc_ob2_e h
    refine mg_Vv (As := []) (rest := []) (ct_X3_dropOldest l (w := w) (I := I) (R := R) e12) C K hP hS hl.1 kf_145 (by decide) rfl rfl ml_X3_22 wy_X3_dropOldest wd_X3_dropOldest rfl rfl rfl ⟨Nat.le_of_ble_eq_true rfl, Nat.le_of_ble_eq_true rfl⟩ (Nat.le_of_ble_eq_true rfl) ⟨Nat.zero_le _, Nat.zero_le _⟩ dX3_add_9 (fun H locs hP hS => ?_)
    exact bk_X3_add_J12 C hr hlk K  I10 R11 v1 h kv1 hP hS (lv_sub hl [0, 1] rfl)
set_option maxHeartbeats 4000000 in
set_option maxRecDepth 100000 in
theorem bk_X3_takeLatest_J26 {p : Program} {l : Launch} {e : Env} {s : State} {m : MethodId} {args : Array Value} {below : List Frame} {meth : Method} {c : Code} (C : CallFix p m c cX3_takeLatest 4 s args mc_big RX3) (hr : meth.sig.returnType = (some .boolean)) (hlk : meth.locks = false) {w : mc_w} (K : mc_K mc_k 152 w s) {R : Nat → Nat → Option Nat} {F : Nat} {Iz : Nat → Nat → Int32} {rz : Int32} : ∀ (I : Nat → Nat → Int32) (v1 : Nat) (v2 : Int32) (s0 : Option Nat), mi_X3_takeLatest_J26 F I R v1 v2 s0 = some (Iz, rz) → (mc_k v1 = 5) → (∀ b, s0 = some b → mc_k b = 5) → ∀ {H : Heap} {locs : List Loc} {ls : Array Slot}, mc_P mc_k 152 w I R H → va_S (mc_A 152 w) s.heap H locs → lv_has ls 4 [(0, .ref (w.2.2.1 145)), (1, .ref (w.2.2.1 v1)), (2, .int v2)] → W p l e ({ frames := 2, cells := 0, slots := 0, locals := 46 } : Room) s m args below meth c H locs 0 0 (MQ below (mc_Q (some (.int rz)) (fun t => mc_B mc_k 152 w Iz R t ∧ ¬ (rz ≠ 0 ∧ rz ≠ 1)) (mc_A 152 w)) args s 0 0 (mc_A 152 w)) (F0 m 26 ls [va_re w.2.2.1 s0]) := by
  intro I v1 v2 s0 h kv1 ts0 H locs ls hP hS hl
  have hx := C.1
  have hb := C.2.1
  have hC := And.intro C.1 C.2.1
  unfold mi_X3_takeLatest_J26 at h
  refine mv_astore_n (i := 3) (lv' := [(3, va_re w.2.2.1 s0), (0, .ref (w.2.2.1 145)), (1, .ref (w.2.2.1 v1)), (2, .int v2)]) hC dX3_takeLatest_26 rfl hl (by decide) rfl (fun ls hl => ?_)
  refine mv_aload_n hC dX3_takeLatest_27 rfl (lv_at hl 0 rfl) ?_
  rcases s0 with _ | b3
  · replace h := mc_om_n h
    refine lv_ifnonnullN hx hb dX3_takeLatest_28 ?_
    have hl : lv_has ls 4 [(3, va_re w.2.2.1 none), (0, .ref (w.2.2.1 145)), (1, .ref (w.2.2.1 v1)), (2, .int v2)] := hl
    refine lv_iconst (v := 0) hx hb dX3_takeLatest_31 (by decide) ?_
    cases h
    exact mt_zX hC hr hlk K hP hS (by decide) (by decide) dX3_takeLatest_32
  · replace h := mc_om_s h
    have kb3 := ts0 b3 rfl
    refine lv_ifnonnull (tgt := 33) hx hb dX3_takeLatest_28 (by decide) ?_
    have hl : lv_has ls 4 [(3, .ref (w.2.2.1 b3)), (0, .ref (w.2.2.1 145)), (1, .ref (w.2.2.1 v1)), (2, .int v2)] := hl
    refine lv_aload_n hx hb dX3_takeLatest_33 rfl (lv_at hl 2 rfl) ?_
    refine lv_aload_n hx hb dX3_takeLatest_34 rfl (lv_at hl 0 rfl) ?_
    obtain ⟨I4, e5, h⟩ := mc_ob_e h
    refine mg_Vv (As := [.ref (w.2.2.1 b3)]) (rest := []) (ct_X5_copyFrom l (w := w) (I := I) (R := R) kv1 kb3 e5) C K hP hS hl.1 kv1 (by decide) rfl rfl ml_X3_25 wy_X5_copyFrom wd_X5_copyFrom rfl rfl rfl ⟨Nat.le_of_ble_eq_true rfl, Nat.le_of_ble_eq_true rfl⟩ (Nat.le_of_ble_eq_true rfl) ⟨Nat.zero_le _, Nat.zero_le _⟩ dX3_takeLatest_35 (fun H locs hP hS => ?_)
    refine lv_aload_n hx hb dX3_takeLatest_38 rfl (lv_at hl 1 rfl) ?_
    refine lv_iload_n hx hb dX3_takeLatest_39 rfl (lv_at hl 3 rfl) ?_
    obtain ⟨I6, eI6, h⟩ := mc_bn_e h
    refine mp_X3_18 C K hP hS kf_145 eI6 dX3_takeLatest_40 (fun H locs hP hS => ?_)
    refine lv_iconst (v := 1) hx hb dX3_takeLatest_43 (by decide) ?_
    cases h
    exact mt_zX hC hr hlk K hP hS (by decide) (by decide) dX3_takeLatest_44
set_option maxHeartbeats 4000000 in
set_option maxRecDepth 100000 in
theorem ct_X3_takeLatest (l : Launch) {w : mc_w} {I : Nat → Nat → Int32} {R : Nat → Nat → Option Nat} {F : Nat} {v1 : Nat} (kv1 : mc_k v1 = 5) {Iz : Nat → Nat → Int32} {rz : Int32} (h : mi_X3_takeLatest F I R v1 = some (Iz, rz)) : Met l yX3_takeLatest (Cond.code yX3_takeLatest cX3_takeLatest 4 (some .boolean) :: mc_big) ({ frames := 2, cells := 0, slots := 0, locals := 46 } : Room) (va_Pc [.ref (w.2.2.1 145), .ref (w.2.2.1 v1)] (mc_B mc_k 152 w I R)) (mc_Q (some (.int rz)) (fun t => mc_B mc_k 152 w Iz R t ∧ ¬ (rz ≠ 0 ∧ rz ≠ 1)) (mc_A 152 w)) 0 0 (mc_A 152 w) := by
  refine Met.ofW (cc := cX3_takeLatest) (maxL := 4) (ret := (some .boolean)) (by decide) rfl ?_
  intro p e s m args below meth c s₁ B hml hv
  obtain ⟨rfl, hP, K⟩ := hv
  have hown : s.vm.findClass RX3 = some m.cls := findClass_of_methodNamed B.named
  have C : CallFix p m c cX3_takeLatest 4 s _ mc_big RX3 := ⟨B.exec, B.bytes, hml, hown, fun w hw => atoms_spec B.pre w (List.mem_cons_of_mem _ hw)⟩
  have hx := C.1
  have hb := C.2.1
  have hC := And.intro C.1 C.2.1
  have hr := B.returns
  have hlk := B.notSynchronized
  have hS : va_S (mc_A 152 w) s.heap s.heap [] := va_S.rf
  have hl := lv_entry ([.ref (w.2.2.1 145), .ref (w.2.2.1 v1)]) (n := 4) (Nat.le_of_ble_eq_true rfl)
  rw [lg_entry_eq]
  generalize (lg_sl ([.ref (w.2.2.1 145), .ref (w.2.2.1 v1)]) ++ List.replicate (4 - (lg_sl ([.ref (w.2.2.1 145), .ref (w.2.2.1 v1)])).length) Slot.unset).toArray = ls at hl ⊢
  have hl : lv_has ls 4 [(0, .ref (w.2.2.1 145)), (1, .ref (w.2.2.1 v1))] := hl
  unfold mi_X3_takeLatest at h
  refine lv_aload_n hx hb dX3_takeLatest_0 rfl (lv_at hl 0 rfl) ?_
  refine mf_X3_18 C K hP kf_145 dX3_takeLatest_1 ?_
  refine lv_iconst (v := 1) hx hb dX3_takeLatest_4 (by decide) ?_
  refine lv_isub hx hb dX3_takeLatest_5 ?_
  obtain ⟨x1, ex1, h⟩ := mc_bn_e h
  refine mv_top ex1 ?_
  refine lv_istore_n (i := 2) (lv' := [(2, .int x1), (0, .ref (w.2.2.1 145)), (1, .ref (w.2.2.1 v1))]) hx hb dX3_takeLatest_6 rfl hl (by decide) rfl (fun ls hl => ?_)
  refine lv_iload_n hx hb dX3_takeLatest_7 rfl (lv_at hl 0 rfl) ?_
  refine lv_if_lt (tgt := 25) hx hb dX3_takeLatest_8 (by decide) (fun c2 => ?_) (fun c2 => ?_)
  · replace h := mc_it h c2
    refine lv_null hx hb dX3_takeLatest_25 ?_
    exact bk_X3_takeLatest_J26 C hr hlk K  I v1 x1 none h kv1 (fun _ h => nomatch h) hP hS (lv_sub hl [1, 2, 0] rfl)
  · replace h := mc_ie h c2
    refine lv_iload_n hx hb dX3_takeLatest_11 rfl (lv_at hl 0 rfl) ?_
    refine lv_iconst (v := 4) hx hb dX3_takeLatest_12 (by decide) ?_
    refine lv_icmp_ge (tgt := 25) hx hb dX3_takeLatest_13 (by decide) (fun c7 => ?_) (fun c7 => ?_)
    · replace h := mc_it h c7
      refine lv_null hx hb dX3_takeLatest_25 ?_
      exact bk_X3_takeLatest_J26 C hr hlk K  I v1 x1 none h kv1 (fun _ h => nomatch h) hP hS (lv_sub hl [1, 2, 0] rfl)
    · replace h := mc_ie h c7
      refine lv_aload_n hx hb dX3_takeLatest_16 rfl (lv_at hl 1 rfl) ?_
      refine mf_X3_11 C K hP kf_145 dX3_takeLatest_17 ?_
      refine lv_iload_n hx hb dX3_takeLatest_20 rfl (lv_at hl 0 rfl) ?_
      obtain ⟨g8, h⟩ := mc_gd h
      obtain ⟨y9, ey9, h⟩ := mc_bn_e h
      have ty9 : ∀ b, y9 = some b → mc_k b = 5 := fun b hb => (hP.2 _ _ b (ey9.symm.trans hb)).2 kf_146
      refine ma_l13 hC K hP kf_146 g8 dX3_takeLatest_21 ?_
      refine mv_topr ey9 ?_
      refine lv_goto (tgt := 26) hx hb dX3_takeLatest_22 (by decide) ?_
      exact bk_X3_takeLatest_J26 C hr hlk K  I v1 x1 y9 h kv1 ty9 hP hS (lv_sub hl [1, 2, 0] rfl)
set_option maxHeartbeats 4000000 in
set_option maxRecDepth 100000 in
theorem ct_X4_markAt (l : Launch) {w : mc_w} {I : Nat → Nat → Int32} {R : Nat → Nat → Option Nat} {v0 : Nat} {v1 : Int32} (kv0 : mc_k v0 = 4) {rz : Int32} (h : mi_X4_markAt I v0 v1 = some rz) : Met l yX4_markAt (Cond.code yX4_markAt cX4_markAt 2 (some .int) :: mc_big) ({ frames := 0, cells := 0, slots := 0, locals := 0 } : Room) (va_Pc [.ref (w.2.2.1 v0), .int v1] (mc_B mc_k 152 w I R)) (mc_Q (some (.int rz)) (mc_B mc_k 152 w I R) (mc_A 152 w)) 0 0 (mc_A 152 w) := by
  refine Met.ofW (cc := cX4_markAt) (maxL := 2) (ret := (some .int)) (by decide) rfl ?_
  intro p e s m args below meth c s₁ B hml hv
  obtain ⟨rfl, hP, K⟩ := hv
  have hown : s.vm.findClass RX4 = some m.cls := findClass_of_methodNamed B.named
  have C : CallFix p m c cX4_markAt 2 s _ mc_big RX4 := ⟨B.exec, B.bytes, hml, hown, fun w hw => atoms_spec B.pre w (List.mem_cons_of_mem _ hw)⟩
  have hx := C.1
  have hb := C.2.1
  have hC := And.intro C.1 C.2.1
  have hr := B.returns
  have hlk := B.notSynchronized
  have hS : va_S (mc_A 152 w) s.heap s.heap [] := va_S.rf
  have hl := lv_entry ([.ref (w.2.2.1 v0), .int v1]) (n := 2) (Nat.le_of_ble_eq_true rfl)
  rw [lg_entry_eq]
  generalize (lg_sl ([.ref (w.2.2.1 v0), .int v1]) ++ List.replicate (2 - (lg_sl ([.ref (w.2.2.1 v0), .int v1])).length) Slot.unset).toArray = ls at hl ⊢
  have hl : lv_has ls 2 [(0, .ref (w.2.2.1 v0)), (1, .int v1)] := hl
  unfold mi_X4_markAt at h
  refine lv_iload_n hx hb dX4_markAt_0 rfl (lv_at hl 1 rfl) ?_
  refine lv_if_lt (tgt := 19) hx hb dX4_markAt_1 (by decide) (fun c1 => ?_) (fun c1 => ?_)
  · replace h := mc_it h c1
    refine lv_iconst (v := 0) hx hb dX4_markAt_19 (by decide) ?_
    cases h
    exact mt_i hC hr hlk K hP hS dX4_markAt_20
  · replace h := mc_ie h c1
    refine lv_iload_n hx hb dX4_markAt_4 rfl (lv_at hl 1 rfl) ?_
    refine lv_bipush (v := 12) hx hb dX4_markAt_5 (by decide) ?_
    refine lv_icmp_ge (tgt := 19) hx hb dX4_markAt_7 (by decide) (fun c2 => ?_) (fun c2 => ?_)
    · replace h := mc_it h c2
      refine lv_iconst (v := 0) hx hb dX4_markAt_19 (by decide) ?_
      cases h
      exact mt_i hC hr hlk K hP hS dX4_markAt_20
    · replace h := mc_ie h c2
      refine lv_aload_n hx hb dX4_markAt_10 rfl (lv_at hl 0 rfl) ?_
      refine mf_X4_9 C K hP kv0 dX4_markAt_11 ?_
      refine lv_iload_n hx hb dX4_markAt_14 rfl (lv_at hl 1 rfl) ?_
      obtain ⟨g3, h⟩ := mc_gd h
      refine ma_l14 hC K hP (kk_4_1 kv0) g3 dX4_markAt_15 ?_
      refine lv_goto (tgt := 20) hx hb dX4_markAt_16 (by decide) ?_
      cases h
      exact mt_i hC hr hlk K hP hS dX4_markAt_20
set_option maxHeartbeats 4000000 in
set_option maxRecDepth 100000 in
theorem ct_X4_put (l : Launch) {w : mc_w} {I : Nat → Nat → Int32} {R : Nat → Nat → Option Nat} {v0 : Nat} {v1 : Int32} {v2 : Int32} (kv0 : mc_k v0 = 4) {Iz : Nat → Nat → Int32} (h : mi_X4_put I v0 v1 v2 = some Iz) : Met l yX4_put (Cond.code yX4_put cX4_put 3 none :: mc_big) ({ frames := 0, cells := 0, slots := 0, locals := 0 } : Room) (va_Pc [.ref (w.2.2.1 v0), .int v1, .int v2] (mc_B mc_k 152 w I R)) (mc_Q none (mc_B mc_k 152 w Iz R) (mc_A 152 w)) 0 0 (mc_A 152 w) := by
  refine Met.ofW (cc := cX4_put) (maxL := 3) (ret := none) (by decide) rfl ?_
  intro p e s m args below meth c s₁ B hml hv
  obtain ⟨rfl, hP, K⟩ := hv
  have hown : s.vm.findClass RX4 = some m.cls := findClass_of_methodNamed B.named
  have C : CallFix p m c cX4_put 3 s _ mc_big RX4 := ⟨B.exec, B.bytes, hml, hown, fun w hw => atoms_spec B.pre w (List.mem_cons_of_mem _ hw)⟩
  have hx := C.1
  have hb := C.2.1
  have hC := And.intro C.1 C.2.1
  have hr := B.returns
  have hlk := B.notSynchronized
  have hS : va_S (mc_A 152 w) s.heap s.heap [] := va_S.rf
  have hl := lv_entry ([.ref (w.2.2.1 v0), .int v1, .int v2]) (n := 3) (Nat.le_of_ble_eq_true rfl)
  rw [lg_entry_eq]
  generalize (lg_sl ([.ref (w.2.2.1 v0), .int v1, .int v2]) ++ List.replicate (3 - (lg_sl ([.ref (w.2.2.1 v0), .int v1, .int v2])).length) Slot.unset).toArray = ls at hl ⊢
  have hl : lv_has ls 3 [(0, .ref (w.2.2.1 v0)), (1, .int v1), (2, .int v2)] := hl
  unfold mi_X4_put at h
  refine lv_iload_n hx hb dX4_put_0 rfl (lv_at hl 1 rfl) ?_
  refine lv_if_lt (tgt := 17) hx hb dX4_put_1 (by decide) (fun c1 => ?_) (fun c1 => ?_)
  · replace h := mc_it h c1
    cases h
    exact mt_v hC hr hlk K hP hS dX4_put_17
  · replace h := mc_ie h c1
    refine lv_iload_n hx hb dX4_put_4 rfl (lv_at hl 1 rfl) ?_
    refine lv_bipush (v := 12) hx hb dX4_put_5 (by decide) ?_
    refine lv_icmp_ge (tgt := 17) hx hb dX4_put_7 (by decide) (fun c2 => ?_) (fun c2 => ?_)
    · replace h := mc_it h c2
      cases h
      exact mt_v hC hr hlk K hP hS dX4_put_17
    · replace h := mc_ie h c2
      refine lv_aload_n hx hb dX4_put_10 rfl (lv_at hl 0 rfl) ?_
      refine mf_X4_9 C K hP kv0 dX4_put_11 ?_
      refine lv_iload_n hx hb dX4_put_14 rfl (lv_at hl 1 rfl) ?_
      refine lv_iload_n hx hb dX4_put_15 rfl (lv_at hl 2 rfl) ?_
      obtain ⟨g3, h⟩ := mc_gd h
      obtain ⟨I4, eI4, h⟩ := mc_bn_e h
      refine ma_s14 hC K hP hS (kk_4_1 kv0) g3 eI4 dX4_put_16 (fun H locs hP hS => ?_)
      cases h
      exact mt_v hC hr hlk K hP hS dX4_put_17
set_option maxHeartbeats 4000000 in
set_option maxRecDepth 100000 in
theorem ct_X4_isAnyAbove (l : Launch) {w : mc_w} {I : Nat → Nat → Int32} {R : Nat → Nat → Option Nat} {v0 : Nat} {v1 : Int32} (kv0 : mc_k v0 = 4) {rz : Int32} (h : mi_X4_isAnyAbove I v0 v1 = some rz) : Met l yX4_isAnyAbove (Cond.code yX4_isAnyAbove cX4_isAnyAbove 2 (some .boolean) :: mc_big) ({ frames := 1, cells := 0, slots := 0, locals := 21 } : Room) (va_Pc [.ref (w.2.2.1 v0), .int v1] (mc_B mc_k 152 w I R)) (mc_Q (some (.int rz)) (fun t => mc_B mc_k 152 w I R t ∧ ¬ (rz ≠ 0 ∧ rz ≠ 1)) (mc_A 152 w)) 0 0 (mc_A 152 w) := by
  refine Met.ofW (cc := cX4_isAnyAbove) (maxL := 2) (ret := (some .boolean)) (by decide) rfl ?_
  intro p e s m args below meth c s₁ B hml hv
  obtain ⟨rfl, hP, K⟩ := hv
  have hown : s.vm.findClass RX4 = some m.cls := findClass_of_methodNamed B.named
  have C : CallFix p m c cX4_isAnyAbove 2 s _ mc_big RX4 := ⟨B.exec, B.bytes, hml, hown, fun w hw => atoms_spec B.pre w (List.mem_cons_of_mem _ hw)⟩
  have hx := C.1
  have hb := C.2.1
  have hC := And.intro C.1 C.2.1
  have hr := B.returns
  have hlk := B.notSynchronized
  have hS : va_S (mc_A 152 w) s.heap s.heap [] := va_S.rf
  have hl := lv_entry ([.ref (w.2.2.1 v0), .int v1]) (n := 2) (Nat.le_of_ble_eq_true rfl)
  rw [lg_entry_eq]
  generalize (lg_sl ([.ref (w.2.2.1 v0), .int v1]) ++ List.replicate (2 - (lg_sl ([.ref (w.2.2.1 v0), .int v1])).length) Slot.unset).toArray = ls at hl ⊢
  have hl : lv_has ls 2 [(0, .ref (w.2.2.1 v0)), (1, .int v1)] := hl
  unfold mi_X4_isAnyAbove at h
  refine lv_aload_n hx hb dX4_isAnyAbove_0 rfl (lv_at hl 0 rfl) ?_
  refine mf_X4_15 C K hP kv0 dX4_isAnyAbove_1 ?_
  refine lv_if_le (tgt := 25) hx hb dX4_isAnyAbove_4 (by decide) (fun c1 => ?_) (fun c1 => ?_)
  · replace h := mc_it h c1
    refine lv_iconst (v := 0) hx hb dX4_isAnyAbove_25 (by decide) ?_
    cases h
    exact mt_zX hC hr hlk K hP hS (by decide) (by decide) dX4_isAnyAbove_26
  · replace h := mc_ie h c1
    refine lv_aload_n hx hb dX4_isAnyAbove_7 rfl (lv_at hl 0 rfl) ?_
    refine lv_aload_n hx hb dX4_isAnyAbove_8 rfl (lv_at hl 0 rfl) ?_
    refine mf_X4_15 C K hP kv0 dX4_isAnyAbove_9 ?_
    refine lv_iconst (v := 1) hx hb dX4_isAnyAbove_12 (by decide) ?_
    refine lv_isub hx hb dX4_isAnyAbove_13 ?_
    obtain ⟨r2, e3, h⟩ := mc_ob_e h
    refine mg_Vi (As := [.int ((I v0 1) - 1)]) (rest := []) (ct_X4_markAt l (w := w) (I := I) (R := R) kv0 e3) C K hP hS hl.1 kv0 (by decide) rfl rfl ml_X4_34 wy_X4_markAt wd_X4_markAt rfl rfl rfl ⟨Nat.le_of_ble_eq_true rfl, Nat.le_of_ble_eq_true rfl⟩ (Nat.le_of_ble_eq_true rfl) ⟨Nat.zero_le _, Nat.zero_le _⟩ dX4_isAnyAbove_14 (fun H locs hP hS => ?_)
    refine lv_iload_n hx hb dX4_isAnyAbove_17 rfl (lv_at hl 1 rfl) ?_
    refine lv_icmp_le (tgt := 25) hx hb dX4_isAnyAbove_18 (by decide) (fun c4 => ?_) (fun c4 => ?_)
    · replace h := mc_it h c4
      refine lv_iconst (v := 0) hx hb dX4_isAnyAbove_25 (by decide) ?_
      cases h
      exact mt_zX hC hr hlk K hP hS (by decide) (by decide) dX4_isAnyAbove_26
    · replace h := mc_ie h c4
      refine lv_iconst (v := 1) hx hb dX4_isAnyAbove_21 (by decide) ?_
      refine lv_goto (tgt := 26) hx hb dX4_isAnyAbove_22 (by decide) ?_
      cases h
      exact mt_zX hC hr hlk K hP hS (by decide) (by decide) dX4_isAnyAbove_26
set_option maxHeartbeats 4000000 in
set_option maxRecDepth 100000 in
theorem bk_X4_takeBackAbove_J33 {p : Program} {l : Launch} {e : Env} {s : State} {m : MethodId} {args : Array Value} {below : List Frame} {meth : Method} {c : Code} (C : CallFix p m c cX4_takeBackAbove 4 s args mc_big RX4) (hr : meth.sig.returnType = (some .int)) (hlk : meth.locks = false) {w : mc_w} (K : mc_K mc_k 152 w s) {R : Nat → Nat → Option Nat} {F : Nat} {Iz : Nat → Nat → Int32} {rz : Int32} : ∀ (I : Nat → Nat → Int32) (v0 : Nat) (v2 : Int32), mi_X4_takeBackAbove_J33 F I v0 v2 = some (Iz, rz) → (mc_k v0 = 4) → ∀ {H : Heap} {locs : List Loc} {ls : Array Slot}, mc_P mc_k 152 w I R H → va_S (mc_A 152 w) s.heap H locs → lv_has ls 4 [(0, .ref (w.2.2.1 v0)), (2, .int v2)] → W p l e ({ frames := 1, cells := 0, slots := 0, locals := 21 } : Room) s m args below meth c H locs 0 0 (MQ below (mc_Q (some (.int rz)) (mc_B mc_k 152 w Iz R) (mc_A 152 w)) args s 0 0 (mc_A 152 w)) (F0 m 33 ls []) := by
  intro I v0 v2 h kv0 H locs ls hP hS hl
  have hx := C.1
  have hb := C.2.1
  have hC := And.intro C.1 C.2.1
  unfold mi_X4_takeBackAbove_J33 at h
  refine lv_aload_n hx hb dX4_takeBackAbove_33 rfl (lv_at hl 0 rfl) ?_
  refine lv_dup hx hb dX4_takeBackAbove_34 rfl ?_
  refine mf_X4_31 C K hP kv0 dX4_takeBackAbove_35 ?_
  refine lv_iload_n hx hb dX4_takeBackAbove_38 rfl (lv_at hl 1 rfl) ?_
  refine lv_aload_n hx hb dX4_takeBackAbove_39 rfl (lv_at hl 0 rfl) ?_
  refine mf_X4_15 C K hP kv0 dX4_takeBackAbove_40 ?_
  refine lv_isub hx hb dX4_takeBackAbove_43 ?_
  refine lv_iadd hx hb dX4_takeBackAbove_44 ?_
  obtain ⟨I4, eI4, h⟩ := mc_bn_e h
  refine mp_X4_31 C K hP hS kv0 eI4 dX4_takeBackAbove_45 (fun H locs hP hS => ?_)
  refine lv_iload_n hx hb dX4_takeBackAbove_48 rfl (lv_at hl 1 rfl) ?_
  refine lv_aload_n hx hb dX4_takeBackAbove_49 rfl (lv_at hl 0 rfl) ?_
  refine mf_X4_15 C K hP kv0 dX4_takeBackAbove_50 ?_
  refine lv_isub hx hb dX4_takeBackAbove_53 ?_
  cases h
  exact mt_i hC hr hlk K hP hS dX4_takeBackAbove_54
set_option maxHeartbeats 4000000 in
set_option maxRecDepth 100000 in
theorem bk_X4_takeBackAbove_B9 {p : Program} {l : Launch} {e : Env} {s : State} {m : MethodId} {args : Array Value} {below : List Frame} {meth : Method} {c : Code} (C : CallFix p m c cX4_takeBackAbove 4 s args mc_big RX4) (hr : meth.sig.returnType = (some .int)) (hlk : meth.locks = false) {w : mc_w} (K : mc_K mc_k 152 w s) {R : Nat → Nat → Option Nat} {F : Nat} {Iz : Nat → Nat → Int32} {rz : Int32} {k9 : (Nat → Nat → Int32) → Nat → Int32 → Int32 → Int32 → (Option ((Nat → Nat → Int32) × Int32))} (hk9 : ∀ (I : Nat → Nat → Int32) (v0 : Nat) (v1 : Int32) (v2 : Int32) (v3 : Int32), k9 I v0 v1 v2 v3 = some (Iz, rz) → (mc_k v0 = 4) → ∀ {H : Heap} {locs : List Loc} {ls : Array Slot}, mc_P mc_k 152 w I R H → va_S (mc_A 152 w) s.heap H locs → lv_has ls 4 [(0, .ref (w.2.2.1 v0)), (1, .int v1), (2, .int v2), (3, .int v3)] → W p l e ({ frames := 1, cells := 0, slots := 0, locals := 21 } : Room) s m args below meth c H locs 0 0 (MQ below (mc_Q (some (.int rz)) (mc_B mc_k 152 w Iz R) (mc_A 152 w)) args s 0 0 (mc_A 152 w)) (F0 m 9 ls [])) : ∀ (I : Nat → Nat → Int32) (v0 : Nat) (v1 : Int32) (v2 : Int32) (v3 : Int32), mi_X4_takeBackAbove_B9 k9 F I v0 v1 v2 v3 = some (Iz, rz) → (mc_k v0 = 4) → ∀ {H : Heap} {locs : List Loc} {ls : Array Slot}, mc_P mc_k 152 w I R H → va_S (mc_A 152 w) s.heap H locs → lv_has ls 4 [(0, .ref (w.2.2.1 v0)), (1, .int v1), (2, .int v2), (3, .int v3)] → W p l e ({ frames := 1, cells := 0, slots := 0, locals := 21 } : Room) s m args below meth c H locs 0 0 (MQ below (mc_Q (some (.int rz)) (mc_B mc_k 152 w Iz R) (mc_A 152 w)) args s 0 0 (mc_A 152 w)) (F0 m 9 ls []) := by
  intro I v0 v1 v2 v3 h kv0 H locs ls hP hS hl
  have hx := C.1
  have hb := C.2.1
  have hC := And.intro C.1 C.2.1
  unfold mi_X4_takeBackAbove_B9 at h
  refine lv_iload_n hx hb dX4_takeBackAbove_9 rfl (lv_at hl 3 rfl) ?_
  refine lv_if_lt (tgt := 33) hx hb dX4_takeBackAbove_10 (by decide) (fun c3 => ?_) (fun c3 => ?_)
  · replace h := mc_it h c3
    exact bk_X4_takeBackAbove_J33 C hr hlk K  I v0 v2 h kv0 hP hS (lv_sub hl [0, 2] rfl)
  · replace h := mc_ie h c3
    refine lv_aload_n hx hb dX4_takeBackAbove_13 rfl (lv_at hl 0 rfl) ?_
    refine lv_iload_n hx hb dX4_takeBackAbove_14 rfl (lv_at hl 3 rfl) ?_
    obtain ⟨r5, e6, h⟩ := mc_ob_e h
    refine mg_Vi (As := [.int v3]) (rest := []) (ct_X4_markAt l (w := w) (I := I) (R := R) kv0 e6) C K hP hS hl.1 kv0 (by decide) rfl rfl ml_X4_34 wy_X4_markAt wd_X4_markAt rfl rfl rfl ⟨Nat.le_of_ble_eq_true rfl, Nat.le_of_ble_eq_true rfl⟩ (Nat.le_of_ble_eq_true rfl) ⟨Nat.zero_le _, Nat.zero_le _⟩ dX4_takeBackAbove_15 (fun H locs hP hS => ?_)
    refine lv_iload_n hx hb dX4_takeBackAbove_18 rfl (lv_at hl 1 rfl) ?_
    refine lv_icmp_le (tgt := 33) hx hb dX4_takeBackAbove_19 (by decide) (fun c7 => ?_) (fun c7 => ?_)
    · replace h := mc_it h c7
      exact bk_X4_takeBackAbove_J33 C hr hlk K  I v0 v2 h kv0 hP hS (lv_sub hl [0, 2] rfl)
    · replace h := mc_ie h c7
      refine lv_aload_n hx hb dX4_takeBackAbove_22 rfl (lv_at hl 0 rfl) ?_
      refine lv_iload_n hx hb dX4_takeBackAbove_23 rfl (lv_at hl 3 rfl) ?_
      obtain ⟨I8, eI8, h⟩ := mc_bn_e h
      refine mp_X4_15 C K hP hS kv0 eI8 dX4_takeBackAbove_24 (fun H locs hP hS => ?_)
      obtain ⟨x9, ex9, h⟩ := mc_bn_e h
      refine lv_iinc (v := x9) (lv' := [(3, .int x9), (0, .ref (w.2.2.1 v0)), (1, .int v1), (2, .int v2)]) hx hb dX4_takeBackAbove_27 hl (k := 3) rfl (by rw [ex9]; rfl) (by decide) rfl (fun ls hl => ?_)
      refine lv_goto (tgt := 9) hx hb dX4_takeBackAbove_30 (by decide) ?_
      exact hk9 I8 v0 v1 v2 x9 h kv0 hP hS (lv_sub hl [1, 2, 3, 0] rfl)
theorem bk_X4_takeBackAbove_L9 {p : Program} {l : Launch} {e : Env} {s : State} {m : MethodId} {args : Array Value} {below : List Frame} {meth : Method} {c : Code} (C : CallFix p m c cX4_takeBackAbove 4 s args mc_big RX4) (hr : meth.sig.returnType = (some .int)) (hlk : meth.locks = false) {w : mc_w} (K : mc_K mc_k 152 w s) {R : Nat → Nat → Option Nat} {F : Nat} {Iz : Nat → Nat → Int32} {rz : Int32} : ∀ n : Nat, ∀ (I : Nat → Nat → Int32) (v0 : Nat) (v1 : Int32) (v2 : Int32) (v3 : Int32), mi_X4_takeBackAbove_L9 F n I v0 v1 v2 v3 = some (Iz, rz) → (mc_k v0 = 4) → ∀ {H : Heap} {locs : List Loc} {ls : Array Slot}, mc_P mc_k 152 w I R H → va_S (mc_A 152 w) s.heap H locs → lv_has ls 4 [(0, .ref (w.2.2.1 v0)), (1, .int v1), (2, .int v2), (3, .int v3)] → W p l e ({ frames := 1, cells := 0, slots := 0, locals := 21 } : Room) s m args below meth c H locs 0 0 (MQ below (mc_Q (some (.int rz)) (mc_B mc_k 152 w Iz R) (mc_A 152 w)) args s 0 0 (mc_A 152 w)) (F0 m 9 ls []) := by
  intro n
  induction n with
  | zero =>
    intro I v0 v1 v2 v3 h
    cases h
  | succ n ih =>
    intro I v0 v1 v2 v3 h
    exact bk_X4_takeBackAbove_B9 C hr hlk K  ih I v0 v1 v2 v3 h
set_option maxHeartbeats 4000000 in
set_option maxRecDepth 100000 in
theorem ct_X4_takeBackAbove (l : Launch) {w : mc_w} {I : Nat → Nat → Int32} {R : Nat → Nat → Option Nat} {F : Nat} {v0 : Nat} {v1 : Int32} (kv0 : mc_k v0 = 4) {Iz : Nat → Nat → Int32} {rz : Int32} (h : mi_X4_takeBackAbove F I v0 v1 = some (Iz, rz)) : Met l yX4_takeBackAbove (Cond.code yX4_takeBackAbove cX4_takeBackAbove 4 (some .int) :: mc_big) ({ frames := 1, cells := 0, slots := 0, locals := 21 } : Room) (va_Pc [.ref (w.2.2.1 v0), .int v1] (mc_B mc_k 152 w I R)) (mc_Q (some (.int rz)) (mc_B mc_k 152 w Iz R) (mc_A 152 w)) 0 0 (mc_A 152 w) := by
  refine Met.ofW (cc := cX4_takeBackAbove) (maxL := 4) (ret := (some .int)) (by decide) rfl ?_
  intro p e s m args below meth c s₁ B hml hv
  obtain ⟨rfl, hP, K⟩ := hv
  have hown : s.vm.findClass RX4 = some m.cls := findClass_of_methodNamed B.named
  have C : CallFix p m c cX4_takeBackAbove 4 s _ mc_big RX4 := ⟨B.exec, B.bytes, hml, hown, fun w hw => atoms_spec B.pre w (List.mem_cons_of_mem _ hw)⟩
  have hx := C.1
  have hb := C.2.1
  have hC := And.intro C.1 C.2.1
  have hr := B.returns
  have hlk := B.notSynchronized
  have hS : va_S (mc_A 152 w) s.heap s.heap [] := va_S.rf
  have hl := lv_entry ([.ref (w.2.2.1 v0), .int v1]) (n := 4) (Nat.le_of_ble_eq_true rfl)
  rw [lg_entry_eq]
  generalize (lg_sl ([.ref (w.2.2.1 v0), .int v1]) ++ List.replicate (4 - (lg_sl ([.ref (w.2.2.1 v0), .int v1])).length) Slot.unset).toArray = ls at hl ⊢
  have hl : lv_has ls 4 [(0, .ref (w.2.2.1 v0)), (1, .int v1)] := hl
  unfold mi_X4_takeBackAbove at h
  refine lv_aload_n hx hb dX4_takeBackAbove_0 rfl (lv_at hl 0 rfl) ?_
  refine mf_X4_15 C K hP kv0 dX4_takeBackAbove_1 ?_
  obtain ⟨x1, ex1, h⟩ := mc_bn_e h
  refine mv_top ex1 ?_
  refine lv_istore_n (i := 2) (lv' := [(2, .int x1), (0, .ref (w.2.2.1 v0)), (1, .int v1)]) hx hb dX4_takeBackAbove_4 rfl hl (by decide) rfl (fun ls hl => ?_)
  refine lv_iload_n hx hb dX4_takeBackAbove_5 rfl (lv_at hl 0 rfl) ?_
  refine lv_iconst (v := 1) hx hb dX4_takeBackAbove_6 (by decide) ?_
  refine lv_isub hx hb dX4_takeBackAbove_7 ?_
  obtain ⟨x2, ex2, h⟩ := mc_bn_e h
  refine mv_top ex2 ?_
  refine lv_istore_n (i := 3) (lv' := [(3, .int x2), (2, .int x1), (0, .ref (w.2.2.1 v0)), (1, .int v1)]) hx hb dX4_takeBackAbove_8 rfl hl (by decide) rfl (fun ls hl => ?_)
  exact bk_X4_takeBackAbove_L9 C hr hlk K  F I v0 v1 x1 x2 h kv0 hP hS (lv_sub hl [2, 3, 1, 0] rfl)
set_option maxHeartbeats 4000000 in
set_option maxRecDepth 100000 in
theorem bk_X4_sinkAll_B2 {p : Program} {l : Launch} {e : Env} {s : State} {m : MethodId} {args : Array Value} {below : List Frame} {meth : Method} {c : Code} (C : CallFix p m c cX4_sinkAll 3 s args mc_big RX4) (hr : meth.sig.returnType = none) (hlk : meth.locks = false) {w : mc_w} (K : mc_K mc_k 152 w s) {R : Nat → Nat → Option Nat} {F : Nat} {Iz : Nat → Nat → Int32} {k2 : (Nat → Nat → Int32) → Nat → Int32 → Int32 → (Option ((Nat → Nat → Int32)))} (hk2 : ∀ (I : Nat → Nat → Int32) (v0 : Nat) (v1 : Int32) (v2 : Int32), k2 I v0 v1 v2 = some Iz → (mc_k v0 = 4) → ∀ {H : Heap} {locs : List Loc} {ls : Array Slot}, mc_P mc_k 152 w I R H → va_S (mc_A 152 w) s.heap H locs → lv_has ls 3 [(0, .ref (w.2.2.1 v0)), (1, .int v1), (2, .int v2)] → W p l e ({ frames := 1, cells := 0, slots := 0, locals := 22 } : Room) s m args below meth c H locs 0 0 (MQ below (mc_Q none (mc_B mc_k 152 w Iz R) (mc_A 152 w)) args s 0 0 (mc_A 152 w)) (F0 m 2 ls [])) : ∀ (I : Nat → Nat → Int32) (v0 : Nat) (v1 : Int32) (v2 : Int32), mi_X4_sinkAll_B2 k2 F I v0 v1 v2 = some Iz → (mc_k v0 = 4) → ∀ {H : Heap} {locs : List Loc} {ls : Array Slot}, mc_P mc_k 152 w I R H → va_S (mc_A 152 w) s.heap H locs → lv_has ls 3 [(0, .ref (w.2.2.1 v0)), (1, .int v1), (2, .int v2)] → W p l e ({ frames := 1, cells := 0, slots := 0, locals := 22 } : Room) s m args below meth c H locs 0 0 (MQ below (mc_Q none (mc_B mc_k 152 w Iz R) (mc_A 152 w)) args s 0 0 (mc_A 152 w)) (F0 m 2 ls []) := by
  intro I v0 v1 v2 h kv0 H locs ls hP hS hl
  have hx := C.1
  have hb := C.2.1
  have hC := And.intro C.1 C.2.1
  unfold mi_X4_sinkAll_B2 at h
  refine lv_iload_n hx hb dX4_sinkAll_2 rfl (lv_at hl 2 rfl) ?_
  refine lv_aload_n hx hb dX4_sinkAll_3 rfl (lv_at hl 0 rfl) ?_
  refine mf_X4_15 C K hP kv0 dX4_sinkAll_4 ?_
  refine lv_icmp_ge (tgt := 28) hx hb dX4_sinkAll_7 (by decide) (fun c1 => ?_) (fun c1 => ?_)
  · replace h := mc_it h c1
    cases h
    exact mt_v hC hr hlk K hP hS dX4_sinkAll_28
  · replace h := mc_ie h c1
    refine lv_aload_n hx hb dX4_sinkAll_10 rfl (lv_at hl 0 rfl) ?_
    refine lv_iload_n hx hb dX4_sinkAll_11 rfl (lv_at hl 2 rfl) ?_
    refine lv_aload_n hx hb dX4_sinkAll_12 rfl (lv_at hl 0 rfl) ?_
    refine lv_iload_n hx hb dX4_sinkAll_13 rfl (lv_at hl 2 rfl) ?_
    obtain ⟨r2, e3, h⟩ := mc_ob_e h
    refine mg_Vi (As := [.int v2]) (rest := [.int v2, .ref (w.2.2.1 v0)]) (ct_X4_markAt l (w := w) (I := I) (R := R) kv0 e3) C K hP hS hl.1 kv0 (by decide) rfl rfl ml_X4_34 wy_X4_markAt wd_X4_markAt rfl rfl rfl ⟨Nat.le_of_ble_eq_true rfl, Nat.le_of_ble_eq_true rfl⟩ (Nat.le_of_ble_eq_true rfl) ⟨Nat.zero_le _, Nat.zero_le _⟩ dX4_sinkAll_14 (fun H locs hP hS => ?_)
    refine lv_iload_n hx hb dX4_sinkAll_17 rfl (lv_at hl 1 rfl) ?_
    refine lv_isub hx hb dX4_sinkAll_18 ?_
    obtain ⟨I4, e5, h⟩ := mc_ob_e h
    refine mg_Vv (As := [.int v2, .int (r2 - v1)]) (rest := []) (ct_X4_put l (w := w) (I := I) (R := R) kv0 e5) C K hP hS hl.1 kv0 (by decide) rfl rfl ml_X4_38 wy_X4_put wd_X4_put rfl rfl rfl ⟨Nat.le_of_ble_eq_true rfl, Nat.le_of_ble_eq_true rfl⟩ (Nat.le_of_ble_eq_true rfl) ⟨Nat.zero_le _, Nat.zero_le _⟩ dX4_sinkAll_19 (fun H locs hP hS => ?_)
    obtain ⟨x6, ex6, h⟩ := mc_bn_e h
    refine lv_iinc (v := x6) (lv' := [(2, .int x6), (0, .ref (w.2.2.1 v0)), (1, .int v1)]) hx hb dX4_sinkAll_22 hl (k := 2) rfl (by rw [ex6]; rfl) (by decide) rfl (fun ls hl => ?_)
    refine lv_goto (tgt := 2) hx hb dX4_sinkAll_25 (by decide) ?_
    exact hk2 I4 v0 v1 x6 h kv0 hP hS (lv_sub hl [1, 2, 0] rfl)
theorem bk_X4_sinkAll_L2 {p : Program} {l : Launch} {e : Env} {s : State} {m : MethodId} {args : Array Value} {below : List Frame} {meth : Method} {c : Code} (C : CallFix p m c cX4_sinkAll 3 s args mc_big RX4) (hr : meth.sig.returnType = none) (hlk : meth.locks = false) {w : mc_w} (K : mc_K mc_k 152 w s) {R : Nat → Nat → Option Nat} {F : Nat} {Iz : Nat → Nat → Int32} : ∀ n : Nat, ∀ (I : Nat → Nat → Int32) (v0 : Nat) (v1 : Int32) (v2 : Int32), mi_X4_sinkAll_L2 F n I v0 v1 v2 = some Iz → (mc_k v0 = 4) → ∀ {H : Heap} {locs : List Loc} {ls : Array Slot}, mc_P mc_k 152 w I R H → va_S (mc_A 152 w) s.heap H locs → lv_has ls 3 [(0, .ref (w.2.2.1 v0)), (1, .int v1), (2, .int v2)] → W p l e ({ frames := 1, cells := 0, slots := 0, locals := 22 } : Room) s m args below meth c H locs 0 0 (MQ below (mc_Q none (mc_B mc_k 152 w Iz R) (mc_A 152 w)) args s 0 0 (mc_A 152 w)) (F0 m 2 ls []) := by
  intro n
  induction n with
  | zero =>
    intro I v0 v1 v2 h
    cases h
  | succ n ih =>
    intro I v0 v1 v2 h
    exact bk_X4_sinkAll_B2 C hr hlk K  ih I v0 v1 v2 h
set_option maxHeartbeats 4000000 in
set_option maxRecDepth 100000 in
theorem ct_X4_sinkAll (l : Launch) {w : mc_w} {I : Nat → Nat → Int32} {R : Nat → Nat → Option Nat} {F : Nat} {v0 : Nat} {v1 : Int32} (kv0 : mc_k v0 = 4) {Iz : Nat → Nat → Int32} (h : mi_X4_sinkAll F I v0 v1 = some Iz) : Met l yX4_sinkAll (Cond.code yX4_sinkAll cX4_sinkAll 3 none :: mc_big) ({ frames := 1, cells := 0, slots := 0, locals := 22 } : Room) (va_Pc [.ref (w.2.2.1 v0), .int v1] (mc_B mc_k 152 w I R)) (mc_Q none (mc_B mc_k 152 w Iz R) (mc_A 152 w)) 0 0 (mc_A 152 w) := by
  refine Met.ofW (cc := cX4_sinkAll) (maxL := 3) (ret := none) (by decide) rfl ?_
  intro p e s m args below meth c s₁ B hml hv
  obtain ⟨rfl, hP, K⟩ := hv
  have hown : s.vm.findClass RX4 = some m.cls := findClass_of_methodNamed B.named
  have C : CallFix p m c cX4_sinkAll 3 s _ mc_big RX4 := ⟨B.exec, B.bytes, hml, hown, fun w hw => atoms_spec B.pre w (List.mem_cons_of_mem _ hw)⟩
  have hx := C.1
  have hb := C.2.1
  have hC := And.intro C.1 C.2.1
  have hr := B.returns
  have hlk := B.notSynchronized
  have hS : va_S (mc_A 152 w) s.heap s.heap [] := va_S.rf
  have hl := lv_entry ([.ref (w.2.2.1 v0), .int v1]) (n := 3) (Nat.le_of_ble_eq_true rfl)
  rw [lg_entry_eq]
  generalize (lg_sl ([.ref (w.2.2.1 v0), .int v1]) ++ List.replicate (3 - (lg_sl ([.ref (w.2.2.1 v0), .int v1])).length) Slot.unset).toArray = ls at hl ⊢
  have hl : lv_has ls 3 [(0, .ref (w.2.2.1 v0)), (1, .int v1)] := hl
  unfold mi_X4_sinkAll at h
  refine lv_iconst (v := 0) hx hb dX4_sinkAll_0 (by decide) ?_
  refine lv_istore_n (i := 2) (lv' := [(2, .int 0), (0, .ref (w.2.2.1 v0)), (1, .int v1)]) hx hb dX4_sinkAll_1 rfl hl (by decide) rfl (fun ls hl => ?_)
  exact bk_X4_sinkAll_L2 C hr hlk K  F I v0 v1 0 h kv0 hP hS (lv_sub hl [1, 2, 0] rfl)
set_option maxHeartbeats 4000000 in
set_option maxRecDepth 100000 in
theorem ct_X8_layerAt (l : Launch) {w : mc_w} {I : Nat → Nat → Int32} {R : Nat → Nat → Option Nat} {v0 : Int32} {rz : Int32} (h : mi_X8_layerAt v0 = rz) : Met l yX8_layerAt (Cond.code yX8_layerAt cX8_layerAt 1 (some .int) :: mc_big) ({ frames := 1, cells := 0, slots := 0, locals := 21 } : Room) (va_Pc [.int v0] (mc_B mc_k 152 w I R)) (mc_Q (some (.int rz)) (mc_B mc_k 152 w I R) (mc_A 152 w)) 0 0 (mc_A 152 w) := by
  refine Met.ofW (cc := cX8_layerAt) (maxL := 1) (ret := (some .int)) (by decide) rfl ?_
  intro p e s m args below meth c s₁ B hml hv
  obtain ⟨rfl, hP, K⟩ := hv
  have hown : s.vm.findClass RX8 = some m.cls := findClass_of_methodNamed B.named
  have C : CallFix p m c cX8_layerAt 1 s _ mc_big RX8 := ⟨B.exec, B.bytes, hml, hown, fun w hw => atoms_spec B.pre w (List.mem_cons_of_mem _ hw)⟩
  have hx := C.1
  have hb := C.2.1
  have hC := And.intro C.1 C.2.1
  have hr := B.returns
  have hlk := B.notSynchronized
  have hS : va_S (mc_A 152 w) s.heap s.heap [] := va_S.rf
  have hl := lv_entry ([.int v0]) (n := 1) (Nat.le_of_ble_eq_true rfl)
  rw [lg_entry_eq]
  generalize (lg_sl ([.int v0]) ++ List.replicate (1 - (lg_sl ([.int v0])).length) Slot.unset).toArray = ls at hl ⊢
  have hl : lv_has ls 1 [(0, .int v0)] := hl
  unfold mi_X8_layerAt at h
  refine lv_bipush (v := 9) hx hb dX8_layerAt_0 (by decide) ?_
  refine lv_iload_n hx hb dX8_layerAt_2 rfl (lv_at hl 0 rfl) ?_
  refine lv_bipush (v := 100) hx hb dX8_layerAt_3 (by decide) ?_
  refine lv_idiv hx hb dX8_layerAt_5 (by decide) ?_
  refine mm_min C hl.1 ml_X8_238 (Nat.le_of_ble_eq_true rfl) (Nat.le_of_ble_eq_true rfl) ⟨Nat.zero_le _, Nat.zero_le _⟩ dX8_layerAt_6 ?_
  cases h
  exact mt_i hC hr hlk K hP hS dX8_layerAt_9
set_option maxHeartbeats 4000000 in
set_option maxRecDepth 100000 in
theorem ct_X7_has (l : Launch) {w : mc_w} {I : Nat → Nat → Int32} {R : Nat → Nat → Option Nat} {v0 : Nat} {v1 : Int32} (kv0 : mc_k v0 = 7) {rz : Int32} (h : mi_X7_has v0 v1 = rz) : Met l yX7_has (Cond.code yX7_has cX7_has 2 (some .boolean) :: mc_big) ({ frames := 0, cells := 0, slots := 0, locals := 0 } : Room) (va_Pc [.ref (w.2.2.1 v0), .int v1] (mc_B mc_k 152 w I R)) (mc_Q (some (.int rz)) (fun t => mc_B mc_k 152 w I R t ∧ ¬ (rz ≠ 0 ∧ rz ≠ 1)) (mc_A 152 w)) 0 0 (mc_A 152 w) := by
  refine Met.ofW (cc := cX7_has) (maxL := 2) (ret := (some .boolean)) (by decide) rfl ?_
  intro p e s m args below meth c s₁ B hml hv
  obtain ⟨rfl, hP, K⟩ := hv
  have hown : s.vm.findClass RX7 = some m.cls := findClass_of_methodNamed B.named
  have C : CallFix p m c cX7_has 2 s _ mc_big RX7 := ⟨B.exec, B.bytes, hml, hown, fun w hw => atoms_spec B.pre w (List.mem_cons_of_mem _ hw)⟩
  have hx := C.1
  have hb := C.2.1
  have hC := And.intro C.1 C.2.1
  have hr := B.returns
  have hlk := B.notSynchronized
  have hS : va_S (mc_A 152 w) s.heap s.heap [] := va_S.rf
  have hl := lv_entry ([.ref (w.2.2.1 v0), .int v1]) (n := 2) (Nat.le_of_ble_eq_true rfl)
  rw [lg_entry_eq]
  generalize (lg_sl ([.ref (w.2.2.1 v0), .int v1]) ++ List.replicate (2 - (lg_sl ([.ref (w.2.2.1 v0), .int v1])).length) Slot.unset).toArray = ls at hl ⊢
  have hl : lv_has ls 2 [(0, .ref (w.2.2.1 v0)), (1, .int v1)] := hl
  unfold mi_X7_has at h
  refine lv_iload_n hx hb dX7_has_0 rfl (lv_at hl 1 rfl) ?_
  refine lv_if_lt (tgt := 14) hx hb dX7_has_1 (by decide) (fun c1 => ?_) (fun c1 => ?_)
  · replace h := mc_it h c1
    refine lv_iconst (v := 0) hx hb dX7_has_14 (by decide) ?_
    cases h
    exact mt_zX hC hr hlk K hP hS (by decide) (by decide) dX7_has_15
  · replace h := mc_ie h c1
    refine lv_iload_n hx hb dX7_has_4 rfl (lv_at hl 1 rfl) ?_
    refine lv_bipush (v := 10) hx hb dX7_has_5 (by decide) ?_
    refine lv_icmp_ge (tgt := 14) hx hb dX7_has_7 (by decide) (fun c2 => ?_) (fun c2 => ?_)
    · replace h := mc_it h c2
      refine lv_iconst (v := 0) hx hb dX7_has_14 (by decide) ?_
      cases h
      exact mt_zX hC hr hlk K hP hS (by decide) (by decide) dX7_has_15
    · replace h := mc_ie h c2
      refine lv_iconst (v := 1) hx hb dX7_has_10 (by decide) ?_
      refine lv_goto (tgt := 15) hx hb dX7_has_11 (by decide) ?_
      cases h
      exact mt_zX hC hr hlk K hP hS (by decide) (by decide) dX7_has_15
set_option maxHeartbeats 4000000 in
set_option maxRecDepth 100000 in
theorem ct_X7_warmthIn (l : Launch) {w : mc_w} {I : Nat → Nat → Int32} {R : Nat → Nat → Option Nat} {v0 : Nat} {v1 : Int32} (kv0 : mc_k v0 = 7) {rz : Int32} (h : mi_X7_warmthIn I v0 v1 = some rz) : Met l yX7_warmthIn (Cond.code yX7_warmthIn cX7_warmthIn 2 (some .int) :: mc_big) ({ frames := 1, cells := 0, slots := 0, locals := 21 } : Room) (va_Pc [.ref (w.2.2.1 v0), .int v1] (mc_B mc_k 152 w I R)) (mc_Q (some (.int rz)) (mc_B mc_k 152 w I R) (mc_A 152 w)) 0 0 (mc_A 152 w) := by
  refine Met.ofW (cc := cX7_warmthIn) (maxL := 2) (ret := (some .int)) (by decide) rfl ?_
  intro p e s m args below meth c s₁ B hml hv
  obtain ⟨rfl, hP, K⟩ := hv
  have hown : s.vm.findClass RX7 = some m.cls := findClass_of_methodNamed B.named
  have C : CallFix p m c cX7_warmthIn 2 s _ mc_big RX7 := ⟨B.exec, B.bytes, hml, hown, fun w hw => atoms_spec B.pre w (List.mem_cons_of_mem _ hw)⟩
  have hx := C.1
  have hb := C.2.1
  have hC := And.intro C.1 C.2.1
  have hr := B.returns
  have hlk := B.notSynchronized
  have hS : va_S (mc_A 152 w) s.heap s.heap [] := va_S.rf
  have hl := lv_entry ([.ref (w.2.2.1 v0), .int v1]) (n := 2) (Nat.le_of_ble_eq_true rfl)
  rw [lg_entry_eq]
  generalize (lg_sl ([.ref (w.2.2.1 v0), .int v1]) ++ List.replicate (2 - (lg_sl ([.ref (w.2.2.1 v0), .int v1])).length) Slot.unset).toArray = ls at hl ⊢
  have hl : lv_has ls 2 [(0, .ref (w.2.2.1 v0)), (1, .int v1)] := hl
  unfold mi_X7_warmthIn at h
  refine lv_aload_n hx hb dX7_warmthIn_0 rfl (lv_at hl 0 rfl) ?_
  refine lv_iload_n hx hb dX7_warmthIn_1 rfl (lv_at hl 1 rfl) ?_
  refine mg_Vz (As := [.int v1]) (rest := []) (ct_X7_has l (w := w) (I := I) (R := R) kv0 rfl) C K hP hS hl.1 kv0 (by decide) rfl rfl ml_X7_18 wy_X7_has wd_X7_has rfl rfl rfl ⟨Nat.le_of_ble_eq_true rfl, Nat.le_of_ble_eq_true rfl⟩ (Nat.le_of_ble_eq_true rfl) ⟨Nat.zero_le _, Nat.zero_le _⟩ dX7_warmthIn_2 (fun H locs hP z2 hS => ?_)
  refine lv_if_eq (tgt := 17) hx hb dX7_warmthIn_5 (by decide) (fun c3 => ?_) (fun c3 => ?_)
  · replace h := mc_it h c3
    refine lv_iconst (v := 0) hx hb dX7_warmthIn_17 (by decide) ?_
    cases h
    exact mt_i hC hr hlk K hP hS dX7_warmthIn_18
  · replace h := mc_ie h c3
    refine lv_aload_n hx hb dX7_warmthIn_8 rfl (lv_at hl 0 rfl) ?_
    refine mf_X7_9 C K hP kv0 dX7_warmthIn_9 ?_
    refine lv_iload_n hx hb dX7_warmthIn_12 rfl (lv_at hl 1 rfl) ?_
    obtain ⟨g4, h⟩ := mc_gd h
    refine ma_l11 hC K hP (kk_7_1 kv0) g4 dX7_warmthIn_13 ?_
    refine lv_goto (tgt := 18) hx hb dX7_warmthIn_14 (by decide) ?_
    cases h
    exact mt_i hC hr hlk K hP hS dX7_warmthIn_18
set_option maxHeartbeats 4000000 in
set_option maxRecDepth 100000 in
theorem ct_X7_saltIn (l : Launch) {w : mc_w} {I : Nat → Nat → Int32} {R : Nat → Nat → Option Nat} {v0 : Nat} {v1 : Int32} (kv0 : mc_k v0 = 7) {rz : Int32} (h : mi_X7_saltIn I v0 v1 = some rz) : Met l yX7_saltIn (Cond.code yX7_saltIn cX7_saltIn 2 (some .int) :: mc_big) ({ frames := 1, cells := 0, slots := 0, locals := 21 } : Room) (va_Pc [.ref (w.2.2.1 v0), .int v1] (mc_B mc_k 152 w I R)) (mc_Q (some (.int rz)) (mc_B mc_k 152 w I R) (mc_A 152 w)) 0 0 (mc_A 152 w) := by
  refine Met.ofW (cc := cX7_saltIn) (maxL := 2) (ret := (some .int)) (by decide) rfl ?_
  intro p e s m args below meth c s₁ B hml hv
  obtain ⟨rfl, hP, K⟩ := hv
  have hown : s.vm.findClass RX7 = some m.cls := findClass_of_methodNamed B.named
  have C : CallFix p m c cX7_saltIn 2 s _ mc_big RX7 := ⟨B.exec, B.bytes, hml, hown, fun w hw => atoms_spec B.pre w (List.mem_cons_of_mem _ hw)⟩
  have hx := C.1
  have hb := C.2.1
  have hC := And.intro C.1 C.2.1
  have hr := B.returns
  have hlk := B.notSynchronized
  have hS : va_S (mc_A 152 w) s.heap s.heap [] := va_S.rf
  have hl := lv_entry ([.ref (w.2.2.1 v0), .int v1]) (n := 2) (Nat.le_of_ble_eq_true rfl)
  rw [lg_entry_eq]
  generalize (lg_sl ([.ref (w.2.2.1 v0), .int v1]) ++ List.replicate (2 - (lg_sl ([.ref (w.2.2.1 v0), .int v1])).length) Slot.unset).toArray = ls at hl ⊢
  have hl : lv_has ls 2 [(0, .ref (w.2.2.1 v0)), (1, .int v1)] := hl
  unfold mi_X7_saltIn at h
  refine lv_aload_n hx hb dX7_saltIn_0 rfl (lv_at hl 0 rfl) ?_
  refine lv_iload_n hx hb dX7_saltIn_1 rfl (lv_at hl 1 rfl) ?_
  refine mg_Vz (As := [.int v1]) (rest := []) (ct_X7_has l (w := w) (I := I) (R := R) kv0 rfl) C K hP hS hl.1 kv0 (by decide) rfl rfl ml_X7_18 wy_X7_has wd_X7_has rfl rfl rfl ⟨Nat.le_of_ble_eq_true rfl, Nat.le_of_ble_eq_true rfl⟩ (Nat.le_of_ble_eq_true rfl) ⟨Nat.zero_le _, Nat.zero_le _⟩ dX7_saltIn_2 (fun H locs hP z2 hS => ?_)
  refine lv_if_eq (tgt := 17) hx hb dX7_saltIn_5 (by decide) (fun c3 => ?_) (fun c3 => ?_)
  · replace h := mc_it h c3
    refine lv_iconst (v := 0) hx hb dX7_saltIn_17 (by decide) ?_
    cases h
    exact mt_i hC hr hlk K hP hS dX7_saltIn_18
  · replace h := mc_ie h c3
    refine lv_aload_n hx hb dX7_saltIn_8 rfl (lv_at hl 0 rfl) ?_
    refine mf_X7_15 C K hP kv0 dX7_saltIn_9 ?_
    refine lv_iload_n hx hb dX7_saltIn_12 rfl (lv_at hl 1 rfl) ?_
    obtain ⟨g4, h⟩ := mc_gd h
    refine ma_l11 hC K hP (kk_7_2 kv0) g4 dX7_saltIn_13 ?_
    refine lv_goto (tgt := 18) hx hb dX7_saltIn_14 (by decide) ?_
    cases h
    exact mt_i hC hr hlk K hP hS dX7_saltIn_18
set_option maxHeartbeats 4000000 in
set_option maxRecDepth 100000 in
theorem ct_X5_shut (l : Launch) {w : mc_w} {I : Nat → Nat → Int32} {R : Nat → Nat → Option Nat} {v0 : Nat} {v1 : Nat} (kv0 : mc_k v0 = 5) (kv1 : mc_k v1 = 0) {Iz : Nat → Nat → Int32} (h : mi_X5_shut I v0 v1 = some Iz) : Met l yX5_shut (Cond.code yX5_shut cX5_shut 4 none :: mc_big) ({ frames := 2, cells := 0, slots := 0, locals := 42 } : Room) (va_Pc [.ref (w.2.2.1 v0), .ref (w.2.2.1 v1)] (mc_B mc_k 152 w I R)) (mc_Q none (mc_B mc_k 152 w Iz R) (mc_A 152 w)) 0 0 (mc_A 152 w) := by
  refine Met.ofW (cc := cX5_shut) (maxL := 4) (ret := none) (by decide) rfl ?_
  intro p e s m args below meth c s₁ B hml hv
  obtain ⟨rfl, hP, K⟩ := hv
  have hown : s.vm.findClass RX5 = some m.cls := findClass_of_methodNamed B.named
  have C : CallFix p m c cX5_shut 4 s _ mc_big RX5 := ⟨B.exec, B.bytes, hml, hown, fun w hw => atoms_spec B.pre w (List.mem_cons_of_mem _ hw)⟩
  have hx := C.1
  have hb := C.2.1
  have hC := And.intro C.1 C.2.1
  have hr := B.returns
  have hlk := B.notSynchronized
  have hS : va_S (mc_A 152 w) s.heap s.heap [] := va_S.rf
  have hl := lv_entry ([.ref (w.2.2.1 v0), .ref (w.2.2.1 v1)]) (n := 4) (Nat.le_of_ble_eq_true rfl)
  rw [lg_entry_eq]
  generalize (lg_sl ([.ref (w.2.2.1 v0), .ref (w.2.2.1 v1)]) ++ List.replicate (4 - (lg_sl ([.ref (w.2.2.1 v0), .ref (w.2.2.1 v1)])).length) Slot.unset).toArray = ls at hl ⊢
  have hl : lv_has ls 4 [(0, .ref (w.2.2.1 v0)), (1, .ref (w.2.2.1 v1))] := hl
  unfold mi_X5_shut at h
  refine lv_aload_n hx hb dX5_shut_0 rfl (lv_at hl 0 rfl) ?_
  refine mf_X5_12 C K hP kv0 dX5_shut_1 ?_
  refine mf_X5_69 C K hP (kk_5_1 kv0) dX5_shut_4 ?_
  refine lv_aload_n hx hb dX5_shut_7 rfl (lv_at hl 1 rfl) ?_
  refine mf_X5_95 C K hP kv1 dX5_shut_8 ?_
  refine lv_isub hx hb dX5_shut_11 ?_
  obtain ⟨x1, ex1, h⟩ := mc_bn_e h
  refine mv_top ex1 ?_
  refine lv_istore_n (i := 2) (lv' := [(2, .int x1), (0, .ref (w.2.2.1 v0)), (1, .ref (w.2.2.1 v1))]) hx hb dX5_shut_12 rfl hl (by decide) rfl (fun ls hl => ?_)
  refine lv_iload_n hx hb dX5_shut_13 rfl (lv_at hl 0 rfl) ?_
  refine lv_aload_n hx hb dX5_shut_14 rfl (lv_at hl 1 rfl) ?_
  refine mf_X5_12 C K hP kv0 dX5_shut_15 ?_
  refine mg_Vi (As := []) (rest := [.int x1]) (ct_X1_countedSlope l (w := w) (I := I) (R := R) (kk_5_1 kv0) rfl) C K hP hS hl.1 (kk_5_1 kv0) (by decide) rfl rfl ml_X5_91 wy_X1_countedSlope wd_X1_countedSlope rfl rfl rfl ⟨Nat.le_of_ble_eq_true rfl, Nat.le_of_ble_eq_true rfl⟩ (Nat.le_of_ble_eq_true rfl) ⟨Nat.zero_le _, Nat.zero_le _⟩ dX5_shut_18 (fun H locs hP hS => ?_)
  obtain ⟨r3, e4, h⟩ := mc_ob_e h
  refine mg_SNi (As := [.int x1, .int (mi_X1_countedSlope I (v0 + 1))]) (rest := []) (ct_X8_depthAt l (w := w) (I := I) (R := R) e4) C K hP hS hl.1 K.2.2.2.2.2.2.2.2.2.2.1 wy_X8_depthAt wd_X8_depthAt rfl rfl rfl ⟨Nat.le_of_ble_eq_true rfl, Nat.le_of_ble_eq_true rfl⟩ (Nat.le_of_ble_eq_true rfl) ⟨Nat.zero_le _, Nat.zero_le _⟩ dX5_shut_21 (fun H locs hP hS => ?_)
  refine lv_istore_n (i := 3) (lv' := [(3, .int r3), (2, .int x1), (0, .ref (w.2.2.1 v0)), (1, .ref (w.2.2.1 v1))]) hx hb dX5_shut_24 rfl hl (by decide) rfl (fun ls hl => ?_)
  refine lv_aload_n hx hb dX5_shut_25 rfl (lv_at hl 3 rfl) ?_
  refine lv_iconst (v := 1) hx hb dX5_shut_26 (by decide) ?_
  obtain ⟨I5, eI5, h⟩ := mc_bn_e h
  refine mp_X5_130 C K hP hS kv1 eI5 ⟨by decide, by decide⟩ dX5_shut_27 (fun H locs hP hS => ?_)
  refine lv_aload_n hx hb dX5_shut_30 rfl (lv_at hl 3 rfl) ?_
  refine lv_aload_n hx hb dX5_shut_31 rfl (lv_at hl 2 rfl) ?_
  refine mf_X5_59 C K hP kv0 dX5_shut_32 ?_
  obtain ⟨I6, eI6, h⟩ := mc_bn_e h
  refine mp_X5_143 C K hP hS kv1 eI6 dX5_shut_35 (fun H locs hP hS => ?_)
  refine lv_aload_n hx hb dX5_shut_38 rfl (lv_at hl 3 rfl) ?_
  refine lv_iload_n hx hb dX5_shut_39 rfl (lv_at hl 1 rfl) ?_
  obtain ⟨I7, eI7, h⟩ := mc_bn_e h
  refine mp_X5_146 C K hP hS kv1 eI7 dX5_shut_40 (fun H locs hP hS => ?_)
  refine lv_aload_n hx hb dX5_shut_43 rfl (lv_at hl 3 rfl) ?_
  refine lv_iload_n hx hb dX5_shut_44 rfl (lv_at hl 0 rfl) ?_
  refine mg_SNi (As := [.int r3]) (rest := [.ref (w.2.2.1 v1)]) (ct_X8_layerAt l (w := w) (I := I7) (R := R) rfl) C K hP hS hl.1 K.2.2.2.2.2.2.2.2.2.2.2.1 wy_X8_layerAt wd_X8_layerAt rfl rfl rfl ⟨Nat.le_of_ble_eq_true rfl, Nat.le_of_ble_eq_true rfl⟩ (Nat.le_of_ble_eq_true rfl) ⟨Nat.zero_le _, Nat.zero_le _⟩ dX5_shut_45 (fun H locs hP hS => ?_)
  obtain ⟨I9, eI9, h⟩ := mc_bn_e h
  refine mp_X5_152 C K hP hS kv1 eI9 dX5_shut_48 (fun H locs hP hS => ?_)
  refine lv_aload_n hx hb dX5_shut_51 rfl (lv_at hl 3 rfl) ?_
  refine lv_aload_n hx hb dX5_shut_52 rfl (lv_at hl 2 rfl) ?_
  refine mf_X5_21 C K hP kv0 dX5_shut_53 ?_
  refine lv_aload_n hx hb dX5_shut_56 rfl (lv_at hl 3 rfl) ?_
  refine mf_X5_152 C K hP kv1 dX5_shut_57 ?_
  obtain ⟨r10, e11, h⟩ := mc_ob_e h
  refine mg_Vi (As := [.int (I9 v1 7)]) (rest := [.ref (w.2.2.1 v1)]) (ct_X7_warmthIn l (w := w) (I := I9) (R := R) (kk_5_2 kv0) e11) C K hP hS hl.1 (kk_5_2 kv0) (by decide) rfl rfl ml_X5_155 wy_X7_warmthIn wd_X7_warmthIn rfl rfl rfl ⟨Nat.le_of_ble_eq_true rfl, Nat.le_of_ble_eq_true rfl⟩ (Nat.le_of_ble_eq_true rfl) ⟨Nat.zero_le _, Nat.zero_le _⟩ dX5_shut_60 (fun H locs hP hS => ?_)
  obtain ⟨I12, eI12, h⟩ := mc_bn_e h
  refine mp_X5_158 C K hP hS kv1 eI12 dX5_shut_63 (fun H locs hP hS => ?_)
  refine lv_aload_n hx hb dX5_shut_66 rfl (lv_at hl 3 rfl) ?_
  refine lv_aload_n hx hb dX5_shut_67 rfl (lv_at hl 3 rfl) ?_
  refine mf_X5_158 C K hP kv1 dX5_shut_68 ?_
  refine lv_iload_n hx hb dX5_shut_71 rfl (lv_at hl 0 rfl) ?_
  refine lv_bipush (v := 10) hx hb dX5_shut_72 (by decide) ?_
  refine lv_idiv hx hb dX5_shut_74 (by decide) ?_
  refine lv_iadd hx hb dX5_shut_75 ?_
  obtain ⟨I13, eI13, h⟩ := mc_bn_e h
  refine mp_X5_161 C K hP hS kv1 eI13 dX5_shut_76 (fun H locs hP hS => ?_)
  refine lv_aload_n hx hb dX5_shut_79 rfl (lv_at hl 3 rfl) ?_
  refine lv_aload_n hx hb dX5_shut_80 rfl (lv_at hl 2 rfl) ?_
  refine mf_X5_21 C K hP kv0 dX5_shut_81 ?_
  refine lv_aload_n hx hb dX5_shut_84 rfl (lv_at hl 3 rfl) ?_
  refine mf_X5_152 C K hP kv1 dX5_shut_85 ?_
  obtain ⟨r14, e15, h⟩ := mc_ob_e h
  refine mg_Vi (As := [.int (I13 v1 7)]) (rest := [.ref (w.2.2.1 v1)]) (ct_X7_saltIn l (w := w) (I := I13) (R := R) (kk_5_2 kv0) e15) C K hP hS hl.1 (kk_5_2 kv0) (by decide) rfl rfl ml_X5_164 wy_X7_saltIn wd_X7_saltIn rfl rfl rfl ⟨Nat.le_of_ble_eq_true rfl, Nat.le_of_ble_eq_true rfl⟩ (Nat.le_of_ble_eq_true rfl) ⟨Nat.zero_le _, Nat.zero_le _⟩ dX5_shut_88 (fun H locs hP hS => ?_)
  obtain ⟨I16, eI16, h⟩ := mc_bn_e h
  refine mp_X5_167 C K hP hS kv1 eI16 dX5_shut_91 (fun H locs hP hS => ?_)
  cases h
  exact mt_v hC hr hlk K hP hS dX5_shut_94
set_option maxHeartbeats 4000000 in
set_option maxRecDepth 100000 in
theorem bk_X5_jerk_B2 {p : Program} {l : Launch} {e : Env} {s : State} {m : MethodId} {args : Array Value} {below : List Frame} {meth : Method} {c : Code} (C : CallFix p m c cX5_jerk 3 s args mc_big RX5) (hr : meth.sig.returnType = none) (hlk : meth.locks = false) {w : mc_w} (K : mc_K mc_k 152 w s) {R : Nat → Nat → Option Nat} {F : Nat} {Iz : Nat → Nat → Int32} {k2 : (Nat → Nat → Int32) → (Nat → Nat → Option Nat) → Nat → Int32 → (Option ((Nat → Nat → Int32)))} (hk2 : ∀ (I : Nat → Nat → Int32) (v0 : Nat) (v1 : Int32), k2 I R v0 v1 = some Iz → (mc_k v0 = 5) → ∀ {H : Heap} {locs : List Loc} {ls : Array Slot}, mc_P mc_k 152 w I R H → va_S (mc_A 152 w) s.heap H locs → lv_has ls 3 [(0, .ref (w.2.2.1 v0)), (1, .int v1)] → W p l e ({ frames := 3, cells := 0, slots := 0, locals := 65 } : Room) s m args below meth c H locs 0 0 (MQ below (mc_Q none (mc_B mc_k 152 w Iz R) (mc_A 152 w)) args s 0 0 (mc_A 152 w)) (F0 m 2 ls [])) : ∀ (I : Nat → Nat → Int32) (v0 : Nat) (v1 : Int32), mi_X5_jerk_B2 k2 F I R v0 v1 = some Iz → (mc_k v0 = 5) → ∀ {H : Heap} {locs : List Loc} {ls : Array Slot}, mc_P mc_k 152 w I R H → va_S (mc_A 152 w) s.heap H locs → lv_has ls 3 [(0, .ref (w.2.2.1 v0)), (1, .int v1)] → W p l e ({ frames := 3, cells := 0, slots := 0, locals := 65 } : Room) s m args below meth c H locs 0 0 (MQ below (mc_Q none (mc_B mc_k 152 w Iz R) (mc_A 152 w)) args s 0 0 (mc_A 152 w)) (F0 m 2 ls []) := by
  intro I v0 v1 h kv0 H locs ls hP hS hl
  have hx := C.1
  have hb := C.2.1
  have hC := And.intro C.1 C.2.1
  unfold mi_X5_jerk_B2 at h
  refine lv_iload_n hx hb dX5_jerk_2 rfl (lv_at hl 1 rfl) ?_
  refine lv_aload_n hx hb dX5_jerk_3 rfl (lv_at hl 0 rfl) ?_
  refine mf_X5_56 C K hP kv0 dX5_jerk_4 ?_
  refine lv_icmp_ge (tgt := 58) hx hb dX5_jerk_7 (by decide) (fun c1 => ?_) (fun c1 => ?_)
  · replace h := mc_it h c1
    cases h
    exact mt_v hC hr hlk K hP hS dX5_jerk_58
  · replace h := mc_ie h c1
    refine lv_aload_n hx hb dX5_jerk_10 rfl (lv_at hl 0 rfl) ?_
    refine lv_iload_n hx hb dX5_jerk_11 rfl (lv_at hl 1 rfl) ?_
    obtain ⟨r2, e3, h⟩ := mc_ob_e h
    refine mg_Vr (As := [.int v1]) (rest := []) (ct_X5_bottleAt l (w := w) (I := I) (R := R) kv0 e3) C K hP hS hl.1 kv0 (by decide) rfl rfl ml_X5_62 wy_X5_bottleAt wd_X5_bottleAt rfl rfl rfl ⟨Nat.le_of_ble_eq_true rfl, Nat.le_of_ble_eq_true rfl⟩ (Nat.le_of_ble_eq_true rfl) ⟨Nat.zero_le _, Nat.zero_le _⟩ dX5_jerk_12 (fun H locs hP tr2 hS => ?_)
    refine mv_astore_n (i := 2) (lv' := [(2, va_re w.2.2.1 r2), (0, .ref (w.2.2.1 v0)), (1, .int v1)]) hC dX5_jerk_15 rfl hl (by decide) rfl (fun ls hl => ?_)
    refine mv_aload_n hC dX5_jerk_16 rfl (lv_at hl 0 rfl) ?_
    rcases r2 with _ | b4
    · replace h := mc_om_n h
      refine lv_ifnullN (tgt := 52) hx hb dX5_jerk_17 (by decide) ?_
      have hl : lv_has ls 3 [(2, va_re w.2.2.1 none), (0, .ref (w.2.2.1 v0)), (1, .int v1)] := hl
      obtain ⟨x5, ex5, h⟩ := mc_bn_e h
      refine lv_iinc (v := x5) (lv' := [(1, .int x5), (2, va_re w.2.2.1 none), (0, .ref (w.2.2.1 v0))]) hx hb dX5_jerk_52 hl (k := 2) rfl (by rw [ex5]; rfl) (by decide) rfl (fun ls hl => ?_)
      refine lv_goto (tgt := 2) hx hb dX5_jerk_55 (by decide) ?_
      exact hk2 I v0 x5 h kv0 hP hS (lv_sub hl [2, 0] rfl)
    · replace h := mc_om_s h
      have kb4 := tr2 b4 rfl
      refine lv_ifnull hx hb dX5_jerk_17 ?_
      have hl : lv_has ls 3 [(2, .ref (w.2.2.1 b4)), (0, .ref (w.2.2.1 v0)), (1, .int v1)] := hl
      refine lv_aload_n hx hb dX5_jerk_20 rfl (lv_at hl 0 rfl) ?_
      refine mf_X5_130 C K hP kb4 dX5_jerk_21 ?_
      refine lv_if_ne (tgt := 52) hx hb dX5_jerk_24 (by decide) (fun c6 => ?_) (fun c6 => ?_)
      · replace h := mc_ie h c6
        obtain ⟨x7, ex7, h⟩ := mc_bn_e h
        refine lv_iinc (v := x7) (lv' := [(1, .int x7), (2, .ref (w.2.2.1 b4)), (0, .ref (w.2.2.1 v0))]) hx hb dX5_jerk_52 hl (k := 2) rfl (by rw [ex7]; rfl) (by decide) rfl (fun ls hl => ?_)
        refine lv_goto (tgt := 2) hx hb dX5_jerk_55 (by decide) ?_
        exact hk2 I v0 x7 h kv0 hP hS (lv_sub hl [2, 0] rfl)
      · replace h := mc_it h c6
        refine lv_aload_n hx hb dX5_jerk_27 rfl (lv_at hl 1 rfl) ?_
        refine mf_X5_12 C K hP kv0 dX5_jerk_28 ?_
        refine lv_aload_n hx hb dX5_jerk_31 rfl (lv_at hl 0 rfl) ?_
        refine mf_X5_95 C K hP kb4 dX5_jerk_32 ?_
        refine mg_Vz (As := [.int (I b4 0)]) (rest := []) (ct_X1_isInWater l (w := w) (I := I) (R := R) (kk_5_1 kv0) rfl) C K hP hS hl.1 (kk_5_1 kv0) (by decide) rfl rfl ml_X5_102 wy_X1_isInWater wd_X1_isInWater rfl rfl rfl ⟨Nat.le_of_ble_eq_true rfl, Nat.le_of_ble_eq_true rfl⟩ (Nat.le_of_ble_eq_true rfl) ⟨Nat.zero_le _, Nat.zero_le _⟩ dX5_jerk_35 (fun H locs hP z9 hS => ?_)
        refine lv_if_eq (tgt := 52) hx hb dX5_jerk_38 (by decide) (fun c10 => ?_) (fun c10 => ?_)
        · replace h := mc_it h c10
          obtain ⟨x11, ex11, h⟩ := mc_bn_e h
          refine lv_iinc (v := x11) (lv' := [(1, .int x11), (2, .ref (w.2.2.1 b4)), (0, .ref (w.2.2.1 v0))]) hx hb dX5_jerk_52 hl (k := 2) rfl (by rw [ex11]; rfl) (by decide) rfl (fun ls hl => ?_)
          refine lv_goto (tgt := 2) hx hb dX5_jerk_55 (by decide) ?_
          exact hk2 I v0 x11 h kv0 hP hS (lv_sub hl [2, 0] rfl)
        · replace h := mc_ie h c10
          refine lv_aload_n hx hb dX5_jerk_41 rfl (lv_at hl 1 rfl) ?_
          refine lv_aload_n hx hb dX5_jerk_42 rfl (lv_at hl 0 rfl) ?_
          obtain ⟨I12, e13, h⟩ := mc_ob_e h
          refine mg_Vv (As := [.ref (w.2.2.1 b4)]) (rest := []) (ct_X5_shut l (w := w) (I := I) (R := R) kv0 kb4 e13) C K hP hS hl.1 kv0 (by decide) rfl rfl ml_X5_133 wy_X5_shut wd_X5_shut rfl rfl rfl ⟨Nat.le_of_ble_eq_true rfl, Nat.le_of_ble_eq_true rfl⟩ (Nat.le_of_ble_eq_true rfl) ⟨Nat.zero_le _, Nat.zero_le _⟩ dX5_jerk_43 (fun H locs hP hS => ?_)
          refine lv_aload_n hx hb dX5_jerk_46 rfl (lv_at hl 0 rfl) ?_
          refine lv_iconst (v := 1) hx hb dX5_jerk_47 (by decide) ?_
          obtain ⟨I14, eI14, h⟩ := mc_bn_e h
          refine mp_X5_136 C K hP hS kb4 eI14 ⟨by decide, by decide⟩ dX5_jerk_48 (fun H locs hP hS => ?_)
          cases h
          exact mt_v hC hr hlk K hP hS dX5_jerk_51
theorem bk_X5_jerk_L2 {p : Program} {l : Launch} {e : Env} {s : State} {m : MethodId} {args : Array Value} {below : List Frame} {meth : Method} {c : Code} (C : CallFix p m c cX5_jerk 3 s args mc_big RX5) (hr : meth.sig.returnType = none) (hlk : meth.locks = false) {w : mc_w} (K : mc_K mc_k 152 w s) {R : Nat → Nat → Option Nat} {F : Nat} {Iz : Nat → Nat → Int32} : ∀ n : Nat, ∀ (I : Nat → Nat → Int32) (v0 : Nat) (v1 : Int32), mi_X5_jerk_L2 F n I R v0 v1 = some Iz → (mc_k v0 = 5) → ∀ {H : Heap} {locs : List Loc} {ls : Array Slot}, mc_P mc_k 152 w I R H → va_S (mc_A 152 w) s.heap H locs → lv_has ls 3 [(0, .ref (w.2.2.1 v0)), (1, .int v1)] → W p l e ({ frames := 3, cells := 0, slots := 0, locals := 65 } : Room) s m args below meth c H locs 0 0 (MQ below (mc_Q none (mc_B mc_k 152 w Iz R) (mc_A 152 w)) args s 0 0 (mc_A 152 w)) (F0 m 2 ls []) := by
  intro n
  induction n with
  | zero =>
    intro I v0 v1 h
    cases h
  | succ n ih =>
    intro I v0 v1 h
    exact bk_X5_jerk_B2 C hr hlk K  ih I v0 v1 h
set_option maxHeartbeats 4000000 in
set_option maxRecDepth 100000 in
theorem ct_X5_jerk (l : Launch) {w : mc_w} {I : Nat → Nat → Int32} {R : Nat → Nat → Option Nat} {F : Nat} {v0 : Nat} (kv0 : mc_k v0 = 5) {Iz : Nat → Nat → Int32} (h : mi_X5_jerk F I R v0 = some Iz) : Met l yX5_jerk (Cond.code yX5_jerk cX5_jerk 3 none :: mc_big) ({ frames := 3, cells := 0, slots := 0, locals := 65 } : Room) (va_Pc [.ref (w.2.2.1 v0)] (mc_B mc_k 152 w I R)) (mc_Q none (mc_B mc_k 152 w Iz R) (mc_A 152 w)) 0 0 (mc_A 152 w) := by
  refine Met.ofW (cc := cX5_jerk) (maxL := 3) (ret := none) (by decide) rfl ?_
  intro p e s m args below meth c s₁ B hml hv
  obtain ⟨rfl, hP, K⟩ := hv
  have hown : s.vm.findClass RX5 = some m.cls := findClass_of_methodNamed B.named
  have C : CallFix p m c cX5_jerk 3 s _ mc_big RX5 := ⟨B.exec, B.bytes, hml, hown, fun w hw => atoms_spec B.pre w (List.mem_cons_of_mem _ hw)⟩
  have hx := C.1
  have hb := C.2.1
  have hC := And.intro C.1 C.2.1
  have hr := B.returns
  have hlk := B.notSynchronized
  have hS : va_S (mc_A 152 w) s.heap s.heap [] := va_S.rf
  have hl := lv_entry ([.ref (w.2.2.1 v0)]) (n := 3) (Nat.le_of_ble_eq_true rfl)
  rw [lg_entry_eq]
  generalize (lg_sl ([.ref (w.2.2.1 v0)]) ++ List.replicate (3 - (lg_sl ([.ref (w.2.2.1 v0)])).length) Slot.unset).toArray = ls at hl ⊢
  have hl : lv_has ls 3 [(0, .ref (w.2.2.1 v0))] := hl
  unfold mi_X5_jerk at h
  refine lv_iconst (v := 0) hx hb dX5_jerk_0 (by decide) ?_
  refine lv_istore_n (i := 1) (lv' := [(1, .int 0), (0, .ref (w.2.2.1 v0))]) hx hb dX5_jerk_1 rfl hl (by decide) rfl (fun ls hl => ?_)
  exact bk_X5_jerk_L2 C hr hlk K  F I v0 0 h kv0 hP hS (lv_sub hl [1, 0] rfl)
set_option maxHeartbeats 4000000 in
set_option maxRecDepth 100000 in
theorem ct_X5_payOut (l : Launch) {w : mc_w} {I : Nat → Nat → Int32} {R : Nat → Nat → Option Nat} {F : Nat} {v0 : Nat} {v1 : Int32} (kv0 : mc_k v0 = 5) {Iz : Nat → Nat → Int32} {rz : Int32} (h : mi_X5_payOut F I R v0 v1 = some (Iz, rz)) : Met l yX5_payOut (Cond.code yX5_payOut cX5_payOut 3 (some .int) :: mc_big) ({ frames := 4, cells := 0, slots := 0, locals := 87 } : Room) (va_Pc [.ref (w.2.2.1 v0), .int v1] (mc_B mc_k 152 w I R)) (mc_Q (some (.int rz)) (mc_B mc_k 152 w Iz R) (mc_A 152 w)) 0 0 (mc_A 152 w) := by
  refine Met.ofW (cc := cX5_payOut) (maxL := 3) (ret := (some .int)) (by decide) rfl ?_
  intro p e s m args below meth c s₁ B hml hv
  obtain ⟨rfl, hP, K⟩ := hv
  have hown : s.vm.findClass RX5 = some m.cls := findClass_of_methodNamed B.named
  have C : CallFix p m c cX5_payOut 3 s _ mc_big RX5 := ⟨B.exec, B.bytes, hml, hown, fun w hw => atoms_spec B.pre w (List.mem_cons_of_mem _ hw)⟩
  have hx := C.1
  have hb := C.2.1
  have hC := And.intro C.1 C.2.1
  have hr := B.returns
  have hlk := B.notSynchronized
  have hS : va_S (mc_A 152 w) s.heap s.heap [] := va_S.rf
  have hl := lv_entry ([.ref (w.2.2.1 v0), .int v1]) (n := 3) (Nat.le_of_ble_eq_true rfl)
  rw [lg_entry_eq]
  generalize (lg_sl ([.ref (w.2.2.1 v0), .int v1]) ++ List.replicate (3 - (lg_sl ([.ref (w.2.2.1 v0), .int v1])).length) Slot.unset).toArray = ls at hl ⊢
  have hl : lv_has ls 3 [(0, .ref (w.2.2.1 v0)), (1, .int v1)] := hl
  unfold mi_X5_payOut at h
  refine lv_iload_n hx hb dX5_payOut_0 rfl (lv_at hl 1 rfl) ?_
  refine lv_sipush (v := (-999)) hx hb dX5_payOut_1 (by decide) ?_
  refine lv_icmp_lt (tgt := 18) hx hb dX5_payOut_4 (by decide) (fun c1 => ?_) (fun c1 => ?_)
  · replace h := mc_it h c1
    refine lv_sipush (v := (-1002)) hx hb dX5_payOut_18 (by decide) ?_
    cases h
    exact mt_i hC hr hlk K hP hS dX5_payOut_21
  · replace h := mc_ie h c1
    refine lv_iload_n hx hb dX5_payOut_7 rfl (lv_at hl 1 rfl) ?_
    refine lv_sipush (v := 999) hx hb dX5_payOut_8 (by decide) ?_
    refine lv_icmp_gt (tgt := 18) hx hb dX5_payOut_11 (by decide) (fun c2 => ?_) (fun c2 => ?_)
    · replace h := mc_it h c2
      refine lv_sipush (v := (-1002)) hx hb dX5_payOut_18 (by decide) ?_
      cases h
      exact mt_i hC hr hlk K hP hS dX5_payOut_21
    · replace h := mc_ie h c2
      refine lv_iload_n hx hb dX5_payOut_14 rfl (lv_at hl 1 rfl) ?_
      refine lv_if_ne (tgt := 22) hx hb dX5_payOut_15 (by decide) (fun c3 => ?_) (fun c3 => ?_)
      · replace h := mc_ie h c3
        refine lv_aload_n hx hb dX5_payOut_22 rfl (lv_at hl 0 rfl) ?_
        refine mf_X5_12 C K hP kv0 dX5_payOut_23 ?_
        refine mf_X5_69 C K hP (kk_5_1 kv0) dX5_payOut_26 ?_
        refine lv_iload_n hx hb dX5_payOut_29 rfl (lv_at hl 1 rfl) ?_
        refine lv_iadd hx hb dX5_payOut_30 ?_
        obtain ⟨x4, ex4, h⟩ := mc_bn_e h
        refine mv_top ex4 ?_
        refine lv_istore_n (i := 2) (lv' := [(2, .int x4), (0, .ref (w.2.2.1 v0)), (1, .int v1)]) hx hb dX5_payOut_31 rfl hl (by decide) rfl (fun ls hl => ?_)
        refine lv_iload_n hx hb dX5_payOut_32 rfl (lv_at hl 0 rfl) ?_
        refine lv_if_ge (tgt := 40) hx hb dX5_payOut_33 (by decide) (fun c5 => ?_) (fun c5 => ?_)
        · replace h := mc_it h c5
          refine lv_iload_n hx hb dX5_payOut_40 rfl (lv_at hl 0 rfl) ?_
          refine lv_sipush (v := 999) hx hb dX5_payOut_41 (by decide) ?_
          refine lv_icmp_le (tgt := 51) hx hb dX5_payOut_44 (by decide) (fun c6 => ?_) (fun c6 => ?_)
          · replace h := mc_it h c6
            refine lv_aload_n hx hb dX5_payOut_51 rfl (lv_at hl 1 rfl) ?_
            refine mf_X5_12 C K hP kv0 dX5_payOut_52 ?_
            refine lv_iload_n hx hb dX5_payOut_55 rfl (lv_at hl 0 rfl) ?_
            obtain ⟨I7, eI7, h⟩ := mc_bn_e h
            refine mp_X5_69 C K hP hS (kk_5_1 kv0) eI7 dX5_payOut_56 (fun H locs hP hS => ?_)
            refine lv_iload_n hx hb dX5_payOut_59 rfl (lv_at hl 2 rfl) ?_
            refine mm_abs C hl.1 ml_X5_72 (Nat.le_of_ble_eq_true rfl) (Nat.le_of_ble_eq_true rfl) ⟨Nat.zero_le _, Nat.zero_le _⟩ dX5_payOut_60 ?_
            refine lv_aload_n hx hb dX5_payOut_63 rfl (lv_at hl 1 rfl) ?_
            refine mf_X5_42 C K hP kv0 dX5_payOut_64 ?_
            refine lv_icmp_le (tgt := 74) hx hb dX5_payOut_67 (by decide) (fun c8 => ?_) (fun c8 => ?_)
            · replace h := mc_it h c8
              refine lv_aload_n hx hb dX5_payOut_74 rfl (lv_at hl 1 rfl) ?_
              refine mf_X5_28 C K hP kv0 dX5_payOut_75 ?_
              refine lv_iload_n hx hb dX5_payOut_78 rfl (lv_at hl 0 rfl) ?_
              obtain ⟨I9, r10, e11, h⟩ := mc_ob2_e h
              refine mg_Vi (As := [.int x4]) (rest := []) (ct_X4_takeBackAbove l (w := w) (I := I7) (R := R) (kk_5_5 kv0) e11) C K hP hS hl.1 (kk_5_5 kv0) (by decide) rfl rfl ml_X5_81 wy_X4_takeBackAbove wd_X4_takeBackAbove rfl rfl rfl ⟨Nat.le_of_ble_eq_true rfl, Nat.le_of_ble_eq_true rfl⟩ (Nat.le_of_ble_eq_true rfl) ⟨Nat.zero_le _, Nat.zero_le _⟩ dX5_payOut_79 (fun H locs hP hS => ?_)
              cases h
              exact mt_i hC hr hlk K hP hS dX5_payOut_82
            · replace h := mc_ie h c8
              refine lv_aload_n hx hb dX5_payOut_70 rfl (lv_at hl 1 rfl) ?_
              obtain ⟨I12, e13, h⟩ := mc_ob_e h
              refine mg_Vv (As := []) (rest := []) (ct_X5_jerk l (w := w) (I := I7) (R := R) kv0 e13) C K hP hS hl.1 kv0 (by decide) rfl rfl ml_X5_78 wy_X5_jerk wd_X5_jerk rfl rfl rfl ⟨Nat.le_of_ble_eq_true rfl, Nat.le_of_ble_eq_true rfl⟩ (Nat.le_of_ble_eq_true rfl) ⟨Nat.zero_le _, Nat.zero_le _⟩ dX5_payOut_71 (fun H locs hP hS => ?_)
              refine lv_aload_n hx hb dX5_payOut_74 rfl (lv_at hl 1 rfl) ?_
              refine mf_X5_28 C K hP kv0 dX5_payOut_75 ?_
              refine lv_iload_n hx hb dX5_payOut_78 rfl (lv_at hl 0 rfl) ?_
              obtain ⟨I14, r15, e16, h⟩ := mc_ob2_e h
              refine mg_Vi (As := [.int x4]) (rest := []) (ct_X4_takeBackAbove l (w := w) (I := I12) (R := R) (kk_5_5 kv0) e16) C K hP hS hl.1 (kk_5_5 kv0) (by decide) rfl rfl ml_X5_81 wy_X4_takeBackAbove wd_X4_takeBackAbove rfl rfl rfl ⟨Nat.le_of_ble_eq_true rfl, Nat.le_of_ble_eq_true rfl⟩ (Nat.le_of_ble_eq_true rfl) ⟨Nat.zero_le _, Nat.zero_le _⟩ dX5_payOut_79 (fun H locs hP hS => ?_)
              cases h
              exact mt_i hC hr hlk K hP hS dX5_payOut_82
          · replace h := mc_ie h c6
            refine lv_sipush (v := (-1003)) hx hb dX5_payOut_47 (by decide) ?_
            cases h
            exact mt_i hC hr hlk K hP hS dX5_payOut_50
        · replace h := mc_ie h c5
          refine lv_sipush (v := (-1004)) hx hb dX5_payOut_36 (by decide) ?_
          cases h
          exact mt_i hC hr hlk K hP hS dX5_payOut_39
      · replace h := mc_it h c3
        refine lv_sipush (v := (-1002)) hx hb dX5_payOut_18 (by decide) ?_
        cases h
        exact mt_i hC hr hlk K hP hS dX5_payOut_21
set_option maxHeartbeats 4000000 in
set_option maxRecDepth 100000 in
theorem ct_X5_changeSlope (l : Launch) {w : mc_w} {I : Nat → Nat → Int32} {R : Nat → Nat → Option Nat} {v0 : Nat} {v1 : Int32} (kv0 : mc_k v0 = 5) {Iz : Nat → Nat → Int32} {rz : Int32} (h : mi_X5_changeSlope I v0 v1 = (Iz, rz)) : Met l yX5_changeSlope (Cond.code yX5_changeSlope cX5_changeSlope 3 (some .int) :: mc_big) ({ frames := 0, cells := 0, slots := 0, locals := 0 } : Room) (va_Pc [.ref (w.2.2.1 v0), .int v1] (mc_B mc_k 152 w I R)) (mc_Q (some (.int rz)) (mc_B mc_k 152 w Iz R) (mc_A 152 w)) 0 0 (mc_A 152 w) := by
  refine Met.ofW (cc := cX5_changeSlope) (maxL := 3) (ret := (some .int)) (by decide) rfl ?_
  intro p e s m args below meth c s₁ B hml hv
  obtain ⟨rfl, hP, K⟩ := hv
  have hown : s.vm.findClass RX5 = some m.cls := findClass_of_methodNamed B.named
  have C : CallFix p m c cX5_changeSlope 3 s _ mc_big RX5 := ⟨B.exec, B.bytes, hml, hown, fun w hw => atoms_spec B.pre w (List.mem_cons_of_mem _ hw)⟩
  have hx := C.1
  have hb := C.2.1
  have hC := And.intro C.1 C.2.1
  have hr := B.returns
  have hlk := B.notSynchronized
  have hS : va_S (mc_A 152 w) s.heap s.heap [] := va_S.rf
  have hl := lv_entry ([.ref (w.2.2.1 v0), .int v1]) (n := 3) (Nat.le_of_ble_eq_true rfl)
  rw [lg_entry_eq]
  generalize (lg_sl ([.ref (w.2.2.1 v0), .int v1]) ++ List.replicate (3 - (lg_sl ([.ref (w.2.2.1 v0), .int v1])).length) Slot.unset).toArray = ls at hl ⊢
  have hl : lv_has ls 3 [(0, .ref (w.2.2.1 v0)), (1, .int v1)] := hl
  unfold mi_X5_changeSlope at h
  refine lv_iload_n hx hb dX5_changeSlope_0 rfl (lv_at hl 1 rfl) ?_
  refine lv_if_lt (tgt := 10) hx hb dX5_changeSlope_1 (by decide) (fun c1 => ?_) (fun c1 => ?_)
  · replace h := mc_it h c1
    refine lv_sipush (v := (-1002)) hx hb dX5_changeSlope_10 (by decide) ?_
    cases h
    exact mt_i hC hr hlk K hP hS dX5_changeSlope_13
  · replace h := mc_ie h c1
    refine lv_iload_n hx hb dX5_changeSlope_4 rfl (lv_at hl 1 rfl) ?_
    refine lv_bipush (v := 6) hx hb dX5_changeSlope_5 (by decide) ?_
    refine lv_icmp_le (tgt := 14) hx hb dX5_changeSlope_7 (by decide) (fun c2 => ?_) (fun c2 => ?_)
    · replace h := mc_it h c2
      refine lv_aload_n hx hb dX5_changeSlope_14 rfl (lv_at hl 0 rfl) ?_
      refine mf_X5_12 C K hP kv0 dX5_changeSlope_15 ?_
      refine mf_X5_84 C K hP (kk_5_1 kv0) dX5_changeSlope_18 ?_
      obtain ⟨x3, ex3, h⟩ := mc_bn_e h
      refine mv_top ex3 ?_
      refine lv_istore_n (i := 2) (lv' := [(2, .int x3), (0, .ref (w.2.2.1 v0)), (1, .int v1)]) hx hb dX5_changeSlope_21 rfl hl (by decide) rfl (fun ls hl => ?_)
      refine lv_iload_n hx hb dX5_changeSlope_22 rfl (lv_at hl 0 rfl) ?_
      refine lv_iload_n hx hb dX5_changeSlope_23 rfl (lv_at hl 2 rfl) ?_
      refine lv_icmp_ne (tgt := 31) hx hb dX5_changeSlope_24 (by decide) (fun c4 => ?_) (fun c4 => ?_)
      · replace h := mc_ie h c4
        refine lv_aload_n hx hb dX5_changeSlope_31 rfl (lv_at hl 1 rfl) ?_
        refine mf_X5_12 C K hP kv0 dX5_changeSlope_32 ?_
        refine lv_iload_n hx hb dX5_changeSlope_35 rfl (lv_at hl 2 rfl) ?_
        obtain ⟨I5, eI5, h⟩ := mc_bn_e h
        refine mp_X5_84 C K hP hS (kk_5_1 kv0) eI5 dX5_changeSlope_36 (fun H locs hP hS => ?_)
        refine lv_iload_n hx hb dX5_changeSlope_39 rfl (lv_at hl 0 rfl) ?_
        cases h
        exact mt_i hC hr hlk K hP hS dX5_changeSlope_40
      · replace h := mc_it h c4
        refine lv_sipush (v := (-1005)) hx hb dX5_changeSlope_27 (by decide) ?_
        cases h
        exact mt_i hC hr hlk K hP hS dX5_changeSlope_30
    · replace h := mc_ie h c2
      refine lv_sipush (v := (-1002)) hx hb dX5_changeSlope_10 (by decide) ?_
      cases h
      exact mt_i hC hr hlk K hP hS dX5_changeSlope_13
set_option maxHeartbeats 4000000 in
set_option maxRecDepth 100000 in
theorem bk_X5_changeWeight_J28 {p : Program} {l : Launch} {e : Env} {s : State} {m : MethodId} {args : Array Value} {below : List Frame} {meth : Method} {c : Code} (C : CallFix p m c cX5_changeWeight 2 s args mc_big RX5) (hr : meth.sig.returnType = (some .int)) (hlk : meth.locks = false) {w : mc_w} (K : mc_K mc_k 152 w s) {R : Nat → Nat → Option Nat} {Iz : Nat → Nat → Int32} {rz : Int32} : ∀ (I : Nat → Nat → Int32) (v0 : Nat) (v1 : Int32), mi_X5_changeWeight_J28 I v0 v1 = some (Iz, rz) → (mc_k v0 = 5) → ∀ {H : Heap} {locs : List Loc} {ls : Array Slot}, mc_P mc_k 152 w I R H → va_S (mc_A 152 w) s.heap H locs → lv_has ls 2 [(0, .ref (w.2.2.1 v0)), (1, .int v1)] → W p l e ({ frames := 2, cells := 0, slots := 0, locals := 41 } : Room) s m args below meth c H locs 0 0 (MQ below (mc_Q (some (.int rz)) (mc_B mc_k 152 w Iz R) (mc_A 152 w)) args s 0 0 (mc_A 152 w)) (F0 m 28 ls []) := by
  intro I v0 v1 h kv0 H locs ls hP hS hl
  have hx := C.1
  have hb := C.2.1
  have hC := And.intro C.1 C.2.1
  unfold mi_X5_changeWeight_J28 at h
  refine lv_aload_n hx hb dX5_changeWeight_28 rfl (lv_at hl 0 rfl) ?_
  refine mf_X5_12 C K hP kv0 dX5_changeWeight_29 ?_
  refine mf_X5_87 C K hP (kk_5_1 kv0) dX5_changeWeight_32 ?_
  refine lv_iload_n hx hb dX5_changeWeight_35 rfl (lv_at hl 1 rfl) ?_
  refine lv_icmp_ne (tgt := 43) hx hb dX5_changeWeight_36 (by decide) (fun c2 => ?_) (fun c2 => ?_)
  · replace h := mc_ie h c2
    refine lv_aload_n hx hb dX5_changeWeight_43 rfl (lv_at hl 0 rfl) ?_
    refine mf_X5_12 C K hP kv0 dX5_changeWeight_44 ?_
    refine lv_iload_n hx hb dX5_changeWeight_47 rfl (lv_at hl 1 rfl) ?_
    obtain ⟨g4, h⟩ := mc_gd h
    obtain ⟨I3, eI3, h⟩ := mc_bn_e h
    refine mp_X5_87 C K hP hS (kk_5_1 kv0) eI3 (mc_nz g4) dX5_changeWeight_48 (fun H locs hP hS => ?_)
    refine lv_aload_n hx hb dX5_changeWeight_51 rfl (lv_at hl 0 rfl) ?_
    refine mf_X5_12 C K hP kv0 dX5_changeWeight_52 ?_
    refine mg_Vi (As := []) (rest := []) (ct_X1_countedSlope l (w := w) (I := I3) (R := R) (kk_5_1 kv0) rfl) C K hP hS hl.1 (kk_5_1 kv0) (by decide) rfl rfl ml_X5_91 wy_X1_countedSlope wd_X1_countedSlope rfl rfl rfl ⟨Nat.le_of_ble_eq_true rfl, Nat.le_of_ble_eq_true rfl⟩ (Nat.le_of_ble_eq_true rfl) ⟨Nat.zero_le _, Nat.zero_le _⟩ dX5_changeWeight_55 (fun H locs hP hS => ?_)
    cases h
    exact mt_i hC hr hlk K hP hS dX5_changeWeight_58
  · replace h := mc_it h c2
    refine lv_sipush (v := (-1005)) hx hb dX5_changeWeight_39 (by decide) ?_
    cases h
    exact mt_i hC hr hlk K hP hS dX5_changeWeight_42
set_option maxHeartbeats 4000000 in
set_option maxRecDepth 100000 in
theorem ct_X5_changeWeight (l : Launch) {w : mc_w} {I : Nat → Nat → Int32} {R : Nat → Nat → Option Nat} {v0 : Nat} {v1 : Int32} (kv0 : mc_k v0 = 5) {Iz : Nat → Nat → Int32} {rz : Int32} (h : mi_X5_changeWeight I v0 v1 = some (Iz, rz)) : Met l yX5_changeWeight (Cond.code yX5_changeWeight cX5_changeWeight 2 (some .int) :: mc_big) ({ frames := 2, cells := 0, slots := 0, locals := 41 } : Room) (va_Pc [.ref (w.2.2.1 v0), .int v1] (mc_B mc_k 152 w I R)) (mc_Q (some (.int rz)) (mc_B mc_k 152 w Iz R) (mc_A 152 w)) 0 0 (mc_A 152 w) := by
  refine Met.ofW (cc := cX5_changeWeight) (maxL := 2) (ret := (some .int)) (by decide) rfl ?_
  intro p e s m args below meth c s₁ B hml hv
  obtain ⟨rfl, hP, K⟩ := hv
  have hown : s.vm.findClass RX5 = some m.cls := findClass_of_methodNamed B.named
  have C : CallFix p m c cX5_changeWeight 2 s _ mc_big RX5 := ⟨B.exec, B.bytes, hml, hown, fun w hw => atoms_spec B.pre w (List.mem_cons_of_mem _ hw)⟩
  have hx := C.1
  have hb := C.2.1
  have hC := And.intro C.1 C.2.1
  have hr := B.returns
  have hlk := B.notSynchronized
  have hS : va_S (mc_A 152 w) s.heap s.heap [] := va_S.rf
  have hl := lv_entry ([.ref (w.2.2.1 v0), .int v1]) (n := 2) (Nat.le_of_ble_eq_true rfl)
  rw [lg_entry_eq]
  generalize (lg_sl ([.ref (w.2.2.1 v0), .int v1]) ++ List.replicate (2 - (lg_sl ([.ref (w.2.2.1 v0), .int v1])).length) Slot.unset).toArray = ls at hl ⊢
  have hl : lv_has ls 2 [(0, .ref (w.2.2.1 v0)), (1, .int v1)] := hl
  unfold mi_X5_changeWeight at h
  refine lv_aload_n hx hb dX5_changeWeight_0 rfl (lv_at hl 0 rfl) ?_
  refine mf_X5_12 C K hP kv0 dX5_changeWeight_1 ?_
  refine mf_X5_87 C K hP (kk_5_1 kv0) dX5_changeWeight_4 ?_
  refine lv_if_eq (tgt := 28) hx hb dX5_changeWeight_7 (by decide) (fun c1 => ?_) (fun c1 => ?_)
  · replace h := mc_it h c1
    exact bk_X5_changeWeight_J28 C hr hlk K  I v0 v1 h kv0 hP hS (lv_sub hl [0, 1] rfl)
  · replace h := mc_ie h c1
    refine lv_iload_n hx hb dX5_changeWeight_10 rfl (lv_at hl 1 rfl) ?_
    refine lv_if_ne (tgt := 28) hx hb dX5_changeWeight_11 (by decide) (fun c6 => ?_) (fun c6 => ?_)
    · replace h := mc_ie h c6
      exact bk_X5_changeWeight_J28 C hr hlk K  I v0 v1 h kv0 hP hS (lv_sub hl [0, 1] rfl)
    · replace h := mc_it h c6
      refine lv_aload_n hx hb dX5_changeWeight_14 rfl (lv_at hl 0 rfl) ?_
      refine mf_X5_12 C K hP kv0 dX5_changeWeight_15 ?_
      refine mf_X5_69 C K hP (kk_5_1 kv0) dX5_changeWeight_18 ?_
      refine lv_if_le (tgt := 28) hx hb dX5_changeWeight_21 (by decide) (fun c7 => ?_) (fun c7 => ?_)
      · replace h := mc_it h c7
        exact bk_X5_changeWeight_J28 C hr hlk K  I v0 v1 h kv0 hP hS (lv_sub hl [0, 1] rfl)
      · replace h := mc_ie h c7
        refine lv_sipush (v := (-1004)) hx hb dX5_changeWeight_24 (by decide) ?_
        cases h
        exact mt_i hC hr hlk K hP hS dX5_changeWeight_27
set_option maxHeartbeats 4000000 in
set_option maxRecDepth 100000 in
theorem bk_X5_insertBottle_B45 {p : Program} {l : Launch} {e : Env} {s : State} {m : MethodId} {args : Array Value} {below : List Frame} {meth : Method} {c : Code} (C : CallFix p m c cX5_insertBottle 5 s args mc_big RX5) (hr : meth.sig.returnType = none) (hlk : meth.locks = false) {w : mc_w} (K : mc_K mc_k 152 w s) {F : Nat} {Iz : Nat → Nat → Int32} {Rz : Nat → Nat → Option Nat} {k45 : (Nat → Nat → Int32) → (Nat → Nat → Option Nat) → Nat → Int32 → Int32 → Option Nat → Int32 → (Option ((Nat → Nat → Int32) × (Nat → Nat → Option Nat)))} (hk45 : ∀ (I : Nat → Nat → Int32) (R : Nat → Nat → Option Nat) (v0 : Nat) (v1 : Int32) (v2 : Int32) (v3 : Option Nat) (v4 : Int32), k45 I R v0 v1 v2 v3 v4 = some (Iz, Rz) → (mc_k v0 = 5) → (∀ b, v3 = some b → mc_k b = 0) → ∀ {H : Heap} {locs : List Loc} {ls : Array Slot}, mc_P mc_k 152 w I R H → va_S (mc_A 152 w) s.heap H locs → lv_has ls 5 [(0, .ref (w.2.2.1 v0)), (1, .int v1), (2, .int v2), (3, va_re w.2.2.1 v3), (4, .int v4)] → W p l e ({ frames := 1, cells := 0, slots := 0, locals := 22 } : Room) s m args below meth c H locs 0 0 (MQ below (mc_Q none (mc_B mc_k 152 w Iz Rz) (mc_A 152 w)) args s 0 0 (mc_A 152 w)) (F0 m 45 ls [])) : ∀ (I : Nat → Nat → Int32) (R : Nat → Nat → Option Nat) (v0 : Nat) (v1 : Int32) (v2 : Int32) (v3 : Option Nat) (v4 : Int32), mi_X5_insertBottle_B45 k45 F I R v0 v1 v2 v3 v4 = some (Iz, Rz) → (mc_k v0 = 5) → (∀ b, v3 = some b → mc_k b = 0) → ∀ {H : Heap} {locs : List Loc} {ls : Array Slot}, mc_P mc_k 152 w I R H → va_S (mc_A 152 w) s.heap H locs → lv_has ls 5 [(0, .ref (w.2.2.1 v0)), (1, .int v1), (2, .int v2), (3, va_re w.2.2.1 v3), (4, .int v4)] → W p l e ({ frames := 1, cells := 0, slots := 0, locals := 22 } : Room) s m args below meth c H locs 0 0 (MQ below (mc_Q none (mc_B mc_k 152 w Iz Rz) (mc_A 152 w)) args s 0 0 (mc_A 152 w)) (F0 m 45 ls []) := by
  intro I R v0 v1 v2 v3 v4 h kv0 tv3 H locs ls hP hS hl
  have hx := C.1
  have hb := C.2.1
  have hC := And.intro C.1 C.2.1
  unfold mi_X5_insertBottle_B45 at h
  refine lv_iload hx hb dX5_insertBottle_45 (lv_at hl 4 rfl) ?_
  refine lv_iload_n hx hb dX5_insertBottle_47 rfl (lv_at hl 1 rfl) ?_
  refine lv_icmp_le (tgt := 73) hx hb dX5_insertBottle_48 (by decide) (fun c8 => ?_) (fun c8 => ?_)
  · replace h := mc_it h c8
    refine lv_aload_n hx hb dX5_insertBottle_73 rfl (lv_at hl 0 rfl) ?_
    refine mf_X5_34 C K hP kv0 dX5_insertBottle_74 ?_
    refine lv_iload_n hx hb dX5_insertBottle_77 rfl (lv_at hl 1 rfl) ?_
    refine mv_aload_n hC dX5_insertBottle_78 rfl (lv_at hl 3 rfl) ?_
    obtain ⟨g9, h⟩ := mc_gd h
    obtain ⟨R10, eR10, h⟩ := mc_bn_e h
    refine ma_s12 (x := v3) hC K hP hS (kk_5_7 kv0) tv3 g9 eR10 dX5_insertBottle_79 (fun H locs hP hS => ?_)
    refine lv_aload_n hx hb dX5_insertBottle_80 rfl (lv_at hl 0 rfl) ?_
    refine lv_dup hx hb dX5_insertBottle_81 rfl ?_
    refine mf_X5_56 C K hP kv0 dX5_insertBottle_82 ?_
    refine lv_iconst (v := 1) hx hb dX5_insertBottle_85 (by decide) ?_
    refine lv_iadd hx hb dX5_insertBottle_86 ?_
    obtain ⟨I11, eI11, h⟩ := mc_bn_e h
    refine mp_X5_56 C K hP hS kv0 eI11 dX5_insertBottle_87 (fun H locs hP hS => ?_)
    refine mv_aload_n hC dX5_insertBottle_90 rfl (lv_at hl 3 rfl) ?_
    rcases v3 with _ | b12
    · replace h := mc_om_n h
      refine lv_ifnullN (tgt := 106) hx hb dX5_insertBottle_91 (by decide) ?_
      have hl : lv_has ls 5 [(0, .ref (w.2.2.1 v0)), (1, .int v1), (2, .int v2), (3, va_re w.2.2.1 none), (4, .int v4)] := hl
      cases h
      exact mt_v hC hr hlk K hP hS dX5_insertBottle_106
    · replace h := mc_om_s h
      have kb12 := tv3 b12 rfl
      refine lv_ifnull hx hb dX5_insertBottle_91 ?_
      have hl : lv_has ls 5 [(0, .ref (w.2.2.1 v0)), (1, .int v1), (2, .int v2), (3, .ref (w.2.2.1 b12)), (4, .int v4)] := hl
      refine lv_aload_n hx hb dX5_insertBottle_94 rfl (lv_at hl 3 rfl) ?_
      refine lv_aload_n hx hb dX5_insertBottle_95 rfl (lv_at hl 0 rfl) ?_
      refine mf_X5_12 C K hP kv0 dX5_insertBottle_96 ?_
      refine mf_X5_69 C K hP (kk_5_1 kv0) dX5_insertBottle_99 ?_
      refine lv_iload_n hx hb dX5_insertBottle_102 rfl (lv_at hl 2 rfl) ?_
      obtain ⟨I13, e14, h⟩ := mc_ob_e h
      refine mg_Vv (As := [.int (I11 (v0 + 1) 0), .int v2]) (rest := []) (ct_X0_clampAt l (w := w) (I := I11) (R := R10) kb12 e14) C K hP hS hl.1 kb12 (by decide) rfl rfl ml_X5_127 wy_X0_clampAt wd_X0_clampAt rfl rfl rfl ⟨Nat.le_of_ble_eq_true rfl, Nat.le_of_ble_eq_true rfl⟩ (Nat.le_of_ble_eq_true rfl) ⟨Nat.zero_le _, Nat.zero_le _⟩ dX5_insertBottle_103 (fun H locs hP hS => ?_)
      cases h
      exact mt_v hC hr hlk K hP hS dX5_insertBottle_106
  · replace h := mc_ie h c8
    refine lv_aload_n hx hb dX5_insertBottle_51 rfl (lv_at hl 0 rfl) ?_
    refine mf_X5_34 C K hP kv0 dX5_insertBottle_52 ?_
    refine lv_iload hx hb dX5_insertBottle_55 (lv_at hl 4 rfl) ?_
    refine lv_aload_n hx hb dX5_insertBottle_57 rfl (lv_at hl 0 rfl) ?_
    refine mf_X5_34 C K hP kv0 dX5_insertBottle_58 ?_
    refine lv_iload hx hb dX5_insertBottle_61 (lv_at hl 4 rfl) ?_
    refine lv_iconst (v := 1) hx hb dX5_insertBottle_63 (by decide) ?_
    refine lv_isub hx hb dX5_insertBottle_64 ?_
    obtain ⟨g15, h⟩ := mc_gd h
    obtain ⟨y16, ey16, h⟩ := mc_bn_e h
    have ty16 : ∀ b, y16 = some b → mc_k b = 0 := fun b hb => (hP.2 _ _ b (ey16.symm.trans hb)).1 (kk_5_7 kv0)
    refine ma_l12 hC K hP (kk_5_7 kv0) g15 dX5_insertBottle_65 ?_
    refine mv_topr ey16 ?_
    obtain ⟨g17, h⟩ := mc_gd h
    obtain ⟨R18, eR18, h⟩ := mc_bn_e h
    refine ma_s12 (x := y16) hC K hP hS (kk_5_7 kv0) ty16 g17 eR18 dX5_insertBottle_66 (fun H locs hP hS => ?_)
    obtain ⟨x19, ex19, h⟩ := mc_bn_e h
    refine lv_iinc (v := x19) (lv' := [(4, .int x19), (0, .ref (w.2.2.1 v0)), (1, .int v1), (2, .int v2), (3, va_re w.2.2.1 v3)]) hx hb dX5_insertBottle_67 hl (k := 4) rfl (by rw [ex19]; rfl) (by decide) (by simp [mv_cat]) (fun ls hl => ?_)
    refine lv_goto (tgt := 45) hx hb dX5_insertBottle_70 (by decide) ?_
    exact hk45 I R18 v0 v1 v2 v3 x19 h kv0 tv3 hP hS (lv_sub hl [1, 2, 3, 4, 0] rfl)
theorem bk_X5_insertBottle_L45 {p : Program} {l : Launch} {e : Env} {s : State} {m : MethodId} {args : Array Value} {below : List Frame} {meth : Method} {c : Code} (C : CallFix p m c cX5_insertBottle 5 s args mc_big RX5) (hr : meth.sig.returnType = none) (hlk : meth.locks = false) {w : mc_w} (K : mc_K mc_k 152 w s) {F : Nat} {Iz : Nat → Nat → Int32} {Rz : Nat → Nat → Option Nat} : ∀ n : Nat, ∀ (I : Nat → Nat → Int32) (R : Nat → Nat → Option Nat) (v0 : Nat) (v1 : Int32) (v2 : Int32) (v3 : Option Nat) (v4 : Int32), mi_X5_insertBottle_L45 F n I R v0 v1 v2 v3 v4 = some (Iz, Rz) → (mc_k v0 = 5) → (∀ b, v3 = some b → mc_k b = 0) → ∀ {H : Heap} {locs : List Loc} {ls : Array Slot}, mc_P mc_k 152 w I R H → va_S (mc_A 152 w) s.heap H locs → lv_has ls 5 [(0, .ref (w.2.2.1 v0)), (1, .int v1), (2, .int v2), (3, va_re w.2.2.1 v3), (4, .int v4)] → W p l e ({ frames := 1, cells := 0, slots := 0, locals := 22 } : Room) s m args below meth c H locs 0 0 (MQ below (mc_Q none (mc_B mc_k 152 w Iz Rz) (mc_A 152 w)) args s 0 0 (mc_A 152 w)) (F0 m 45 ls []) := by
  intro n
  induction n with
  | zero =>
    intro I R v0 v1 v2 v3 v4 h
    cases h
  | succ n ih =>
    intro I R v0 v1 v2 v3 v4 h
    exact bk_X5_insertBottle_B45 C hr hlk K  ih I R v0 v1 v2 v3 v4 h
set_option maxHeartbeats 4000000 in
set_option maxRecDepth 100000 in
theorem ct_X5_insertBottle (l : Launch) {w : mc_w} {I : Nat → Nat → Int32} {R : Nat → Nat → Option Nat} {F : Nat} {v0 : Nat} {v1 : Int32} {v2 : Int32} (kv0 : mc_k v0 = 5) {Iz : Nat → Nat → Int32} {Rz : Nat → Nat → Option Nat} (h : mi_X5_insertBottle F I R v0 v1 v2 = some (Iz, Rz)) : Met l yX5_insertBottle (Cond.code yX5_insertBottle cX5_insertBottle 5 none :: mc_big) ({ frames := 1, cells := 0, slots := 0, locals := 22 } : Room) (va_Pc [.ref (w.2.2.1 v0), .int v1, .int v2] (mc_B mc_k 152 w I R)) (mc_Q none (mc_B mc_k 152 w Iz Rz) (mc_A 152 w)) 0 0 (mc_A 152 w) := by
  refine Met.ofW (cc := cX5_insertBottle) (maxL := 5) (ret := none) (by decide) rfl ?_
  intro p e s m args below meth c s₁ B hml hv
  obtain ⟨rfl, hP, K⟩ := hv
  have hown : s.vm.findClass RX5 = some m.cls := findClass_of_methodNamed B.named
  have C : CallFix p m c cX5_insertBottle 5 s _ mc_big RX5 := ⟨B.exec, B.bytes, hml, hown, fun w hw => atoms_spec B.pre w (List.mem_cons_of_mem _ hw)⟩
  have hx := C.1
  have hb := C.2.1
  have hC := And.intro C.1 C.2.1
  have hr := B.returns
  have hlk := B.notSynchronized
  have hS : va_S (mc_A 152 w) s.heap s.heap [] := va_S.rf
  have hl := lv_entry ([.ref (w.2.2.1 v0), .int v1, .int v2]) (n := 5) (Nat.le_of_ble_eq_true rfl)
  rw [lg_entry_eq]
  generalize (lg_sl ([.ref (w.2.2.1 v0), .int v1, .int v2]) ++ List.replicate (5 - (lg_sl ([.ref (w.2.2.1 v0), .int v1, .int v2])).length) Slot.unset).toArray = ls at hl ⊢
  have hl : lv_has ls 5 [(0, .ref (w.2.2.1 v0)), (1, .int v1), (2, .int v2)] := hl
  unfold mi_X5_insertBottle at h
  refine lv_iload_n hx hb dX5_insertBottle_0 rfl (lv_at hl 1 rfl) ?_
  refine lv_if_lt (tgt := 28) hx hb dX5_insertBottle_1 (by decide) (fun c1 => ?_) (fun c1 => ?_)
  · replace h := mc_it h c1
    cases h
    exact mt_v hC hr hlk K hP hS dX5_insertBottle_28
  · replace h := mc_ie h c1
    refine lv_iload_n hx hb dX5_insertBottle_4 rfl (lv_at hl 1 rfl) ?_
    refine lv_aload_n hx hb dX5_insertBottle_5 rfl (lv_at hl 0 rfl) ?_
    refine mf_X5_56 C K hP kv0 dX5_insertBottle_6 ?_
    refine lv_icmp_gt (tgt := 28) hx hb dX5_insertBottle_9 (by decide) (fun c2 => ?_) (fun c2 => ?_)
    · replace h := mc_it h c2
      cases h
      exact mt_v hC hr hlk K hP hS dX5_insertBottle_28
    · replace h := mc_ie h c2
      refine lv_aload_n hx hb dX5_insertBottle_12 rfl (lv_at hl 0 rfl) ?_
      refine mf_X5_56 C K hP kv0 dX5_insertBottle_13 ?_
      refine lv_if_lt (tgt := 28) hx hb dX5_insertBottle_16 (by decide) (fun c3 => ?_) (fun c3 => ?_)
      · replace h := mc_it h c3
        cases h
        exact mt_v hC hr hlk K hP hS dX5_insertBottle_28
      · replace h := mc_ie h c3
        refine lv_aload_n hx hb dX5_insertBottle_19 rfl (lv_at hl 0 rfl) ?_
        refine mf_X5_56 C K hP kv0 dX5_insertBottle_20 ?_
        refine lv_bipush (v := 10) hx hb dX5_insertBottle_23 (by decide) ?_
        refine lv_icmp_lt (tgt := 29) hx hb dX5_insertBottle_25 (by decide) (fun c4 => ?_) (fun c4 => ?_)
        · replace h := mc_it h c4
          refine lv_aload_n hx hb dX5_insertBottle_29 rfl (lv_at hl 0 rfl) ?_
          refine mf_X5_34 C K hP kv0 dX5_insertBottle_30 ?_
          refine lv_aload_n hx hb dX5_insertBottle_33 rfl (lv_at hl 0 rfl) ?_
          refine mf_X5_56 C K hP kv0 dX5_insertBottle_34 ?_
          obtain ⟨g5, h⟩ := mc_gd h
          obtain ⟨y6, ey6, h⟩ := mc_bn_e h
          have ty6 : ∀ b, y6 = some b → mc_k b = 0 := fun b hb => (hP.2 _ _ b (ey6.symm.trans hb)).1 (kk_5_7 kv0)
          refine ma_l12 hC K hP (kk_5_7 kv0) g5 dX5_insertBottle_37 ?_
          refine mv_topr ey6 ?_
          refine mv_astore_n (i := 3) (lv' := [(3, va_re w.2.2.1 y6), (0, .ref (w.2.2.1 v0)), (1, .int v1), (2, .int v2)]) hC dX5_insertBottle_38 rfl hl (by decide) rfl (fun ls hl => ?_)
          refine lv_aload_n hx hb dX5_insertBottle_39 rfl (lv_at hl 1 rfl) ?_
          refine mf_X5_56 C K hP kv0 dX5_insertBottle_40 ?_
          obtain ⟨x7, ex7, h⟩ := mc_bn_e h
          refine mv_top ex7 ?_
          refine lv_istore (i := 4) (lv' := [(4, .int x7), (3, va_re w.2.2.1 y6), (0, .ref (w.2.2.1 v0)), (1, .int v1), (2, .int v2)]) hx hb dX5_insertBottle_43 hl (by decide) (by simp [mv_cat]) (fun ls hl => ?_)
          exact bk_X5_insertBottle_L45 C hr hlk K  F I R v0 v1 v2 y6 x7 h kv0 ty6 hP hS (lv_sub hl [2, 3, 4, 1, 0] rfl)
        · replace h := mc_ie h c4
          cases h
          exact mt_v hC hr hlk K hP hS dX5_insertBottle_28
set_option maxHeartbeats 4000000 in
set_option maxRecDepth 100000 in
theorem bk_X5_addBottle_J61 {p : Program} {l : Launch} {e : Env} {s : State} {m : MethodId} {args : Array Value} {below : List Frame} {meth : Method} {c : Code} (C : CallFix p m c cX5_addBottle 5 s args mc_big RX5) (hr : meth.sig.returnType = (some .int)) (hlk : meth.locks = false) {w : mc_w} (K : mc_K mc_k 152 w s) {F : Nat} {Iz : Nat → Nat → Int32} {Rz : Nat → Nat → Option Nat} {rz : Int32} {k17 : (Nat → Nat → Int32) → (Nat → Nat → Option Nat) → Nat → Int32 → Int32 → Int32 → (Option ((Nat → Nat → Int32) × (Nat → Nat → Option Nat) × Int32))} (hk17 : ∀ (I : Nat → Nat → Int32) (R : Nat → Nat → Option Nat) (v0 : Nat) (v1 : Int32) (v2 : Int32) (v3 : Int32), k17 I R v0 v1 v2 v3 = some (Iz, Rz, rz) → (mc_k v0 = 5) → ∀ {H : Heap} {locs : List Loc} {ls : Array Slot}, mc_P mc_k 152 w I R H → va_S (mc_A 152 w) s.heap H locs → lv_has ls 5 [(0, .ref (w.2.2.1 v0)), (1, .int v1), (2, .int v2), (3, .int v3)] → W p l e ({ frames := 2, cells := 0, slots := 0, locals := 46 } : Room) s m args below meth c H locs 0 0 (MQ below (mc_Q (some (.int rz)) (mc_B mc_k 152 w Iz Rz) (mc_A 152 w)) args s 0 0 (mc_A 152 w)) (F0 m 17 ls [])) : ∀ (I : Nat → Nat → Int32) (R : Nat → Nat → Option Nat) (v0 : Nat) (v1 : Int32) (v2 : Int32) (v3 : Int32) (v4 : Option Nat), mi_X5_addBottle_J61 k17 F I R v0 v1 v2 v3 v4 = some (Iz, Rz, rz) → (mc_k v0 = 5) → (∀ b, v4 = some b → mc_k b = 0) → ∀ {H : Heap} {locs : List Loc} {ls : Array Slot}, mc_P mc_k 152 w I R H → va_S (mc_A 152 w) s.heap H locs → lv_has ls 5 [(0, .ref (w.2.2.1 v0)), (1, .int v1), (2, .int v2), (3, .int v3), (4, va_re w.2.2.1 v4)] → W p l e ({ frames := 2, cells := 0, slots := 0, locals := 46 } : Room) s m args below meth c H locs 0 0 (MQ below (mc_Q (some (.int rz)) (mc_B mc_k 152 w Iz Rz) (mc_A 152 w)) args s 0 0 (mc_A 152 w)) (F0 m 61 ls []) := by
  intro I R v0 v1 v2 v3 v4 h kv0 tv4 H locs ls hP hS hl
  have hx := C.1
  have hb := C.2.1
  have hC := And.intro C.1 C.2.1
  unfold mi_X5_addBottle_J61 at h
  refine mv_aload hC dX5_addBottle_61 (lv_at hl 4 rfl) ?_
  rcases v4 with _ | b9
  · replace h := mc_om_n h
    refine lv_ifnullN (tgt := 85) hx hb dX5_addBottle_63 (by decide) ?_
    have hl : lv_has ls 5 [(0, .ref (w.2.2.1 v0)), (1, .int v1), (2, .int v2), (3, .int v3), (4, va_re w.2.2.1 none)] := hl
    obtain ⟨x10, ex10, h⟩ := mc_bn_e h
    refine lv_iinc (v := x10) (lv' := [(3, .int x10), (0, .ref (w.2.2.1 v0)), (1, .int v1), (2, .int v2), (4, va_re w.2.2.1 none)]) hx hb dX5_addBottle_85 hl (k := 3) rfl (by rw [ex10]; rfl) (by decide) rfl (fun ls hl => ?_)
    refine lv_goto (tgt := 17) hx hb dX5_addBottle_88 (by decide) ?_
    exact hk17 I R v0 v1 v2 x10 h kv0 hP hS (lv_sub hl [1, 2, 3, 0] rfl)
  · replace h := mc_om_s h
    have kb9 := tv4 b9 rfl
    refine lv_ifnull hx hb dX5_addBottle_63 ?_
    have hl : lv_has ls 5 [(0, .ref (w.2.2.1 v0)), (1, .int v1), (2, .int v2), (3, .int v3), (4, .ref (w.2.2.1 b9))] := hl
    refine lv_aload hx hb dX5_addBottle_66 (lv_at hl 4 rfl) ?_
    refine mf_X5_95 C K hP kb9 dX5_addBottle_68 ?_
    refine lv_aload_n hx hb dX5_addBottle_71 rfl (lv_at hl 0 rfl) ?_
    refine mf_X5_12 C K hP kv0 dX5_addBottle_72 ?_
    refine mf_X5_69 C K hP (kk_5_1 kv0) dX5_addBottle_75 ?_
    refine lv_icmp_ge (tgt := 85) hx hb dX5_addBottle_78 (by decide) (fun c11 => ?_) (fun c11 => ?_)
    · replace h := mc_it h c11
      obtain ⟨x12, ex12, h⟩ := mc_bn_e h
      refine lv_iinc (v := x12) (lv' := [(3, .int x12), (0, .ref (w.2.2.1 v0)), (1, .int v1), (2, .int v2), (4, .ref (w.2.2.1 b9))]) hx hb dX5_addBottle_85 hl (k := 3) rfl (by rw [ex12]; rfl) (by decide) rfl (fun ls hl => ?_)
      refine lv_goto (tgt := 17) hx hb dX5_addBottle_88 (by decide) ?_
      exact hk17 I R v0 v1 v2 x12 h kv0 hP hS (lv_sub hl [1, 2, 3, 0] rfl)
    · replace h := mc_ie h c11
      refine lv_iload_n hx hb dX5_addBottle_81 rfl (lv_at hl 3 rfl) ?_
      refine lv_iconst (v := 1) hx hb dX5_addBottle_82 (by decide) ?_
      refine lv_iadd hx hb dX5_addBottle_83 ?_
      obtain ⟨x13, ex13, h⟩ := mc_bn_e h
      refine mv_top ex13 ?_
      refine lv_istore_n (i := 2) (lv' := [(2, .int x13), (0, .ref (w.2.2.1 v0)), (1, .int v1), (3, .int v3), (4, .ref (w.2.2.1 b9))]) hx hb dX5_addBottle_84 rfl hl (by decide) rfl (fun ls hl => ?_)
      obtain ⟨x14, ex14, h⟩ := mc_bn_e h
      refine lv_iinc (v := x14) (lv' := [(3, .int x14), (2, .int x13), (0, .ref (w.2.2.1 v0)), (1, .int v1), (4, .ref (w.2.2.1 b9))]) hx hb dX5_addBottle_85 hl (k := 3) rfl (by rw [ex14]; rfl) (by decide) rfl (fun ls hl => ?_)
      refine lv_goto (tgt := 17) hx hb dX5_addBottle_88 (by decide) ?_
      exact hk17 I R v0 v1 x13 x14 h kv0 hP hS (lv_sub hl [2, 3, 1, 0] rfl)
set_option maxHeartbeats 4000000 in
set_option maxRecDepth 100000 in
theorem bk_X5_addBottle_B17 {p : Program} {l : Launch} {e : Env} {s : State} {m : MethodId} {args : Array Value} {below : List Frame} {meth : Method} {c : Code} (C : CallFix p m c cX5_addBottle 5 s args mc_big RX5) (hr : meth.sig.returnType = (some .int)) (hlk : meth.locks = false) {w : mc_w} (K : mc_K mc_k 152 w s) {F : Nat} {Iz : Nat → Nat → Int32} {Rz : Nat → Nat → Option Nat} {rz : Int32} {k17 : (Nat → Nat → Int32) → (Nat → Nat → Option Nat) → Nat → Int32 → Int32 → Int32 → (Option ((Nat → Nat → Int32) × (Nat → Nat → Option Nat) × Int32))} (hk17 : ∀ (I : Nat → Nat → Int32) (R : Nat → Nat → Option Nat) (v0 : Nat) (v1 : Int32) (v2 : Int32) (v3 : Int32), k17 I R v0 v1 v2 v3 = some (Iz, Rz, rz) → (mc_k v0 = 5) → ∀ {H : Heap} {locs : List Loc} {ls : Array Slot}, mc_P mc_k 152 w I R H → va_S (mc_A 152 w) s.heap H locs → lv_has ls 5 [(0, .ref (w.2.2.1 v0)), (1, .int v1), (2, .int v2), (3, .int v3)] → W p l e ({ frames := 2, cells := 0, slots := 0, locals := 46 } : Room) s m args below meth c H locs 0 0 (MQ below (mc_Q (some (.int rz)) (mc_B mc_k 152 w Iz Rz) (mc_A 152 w)) args s 0 0 (mc_A 152 w)) (F0 m 17 ls [])) : ∀ (I : Nat → Nat → Int32) (R : Nat → Nat → Option Nat) (v0 : Nat) (v1 : Int32) (v2 : Int32) (v3 : Int32), mi_X5_addBottle_B17 k17 F I R v0 v1 v2 v3 = some (Iz, Rz, rz) → (mc_k v0 = 5) → ∀ {H : Heap} {locs : List Loc} {ls : Array Slot}, mc_P mc_k 152 w I R H → va_S (mc_A 152 w) s.heap H locs → lv_has ls 5 [(0, .ref (w.2.2.1 v0)), (1, .int v1), (2, .int v2), (3, .int v3)] → W p l e ({ frames := 2, cells := 0, slots := 0, locals := 46 } : Room) s m args below meth c H locs 0 0 (MQ below (mc_Q (some (.int rz)) (mc_B mc_k 152 w Iz Rz) (mc_A 152 w)) args s 0 0 (mc_A 152 w)) (F0 m 17 ls []) := by
  intro I R v0 v1 v2 v3 h kv0 H locs ls hP hS hl
  have hx := C.1
  have hb := C.2.1
  have hC := And.intro C.1 C.2.1
  unfold mi_X5_addBottle_B17 at h
  refine lv_iload_n hx hb dX5_addBottle_17 rfl (lv_at hl 3 rfl) ?_
  refine lv_aload_n hx hb dX5_addBottle_18 rfl (lv_at hl 0 rfl) ?_
  refine mf_X5_56 C K hP kv0 dX5_addBottle_19 ?_
  refine lv_icmp_ge (tgt := 91) hx hb dX5_addBottle_22 (by decide) (fun c2 => ?_) (fun c2 => ?_)
  · replace h := mc_it h c2
    refine lv_aload_n hx hb dX5_addBottle_91 rfl (lv_at hl 0 rfl) ?_
    refine lv_iload_n hx hb dX5_addBottle_92 rfl (lv_at hl 2 rfl) ?_
    refine lv_iload_n hx hb dX5_addBottle_93 rfl (lv_at hl 1 rfl) ?_
    obtain ⟨I3, R4, e5, h⟩ := mc_ob2_e h
    refine mg_Vv (As := [.int v2, .int v1]) (rest := []) (ct_X5_insertBottle l (w := w) (I := I) (R := R) kv0 e5) C K hP hS hl.1 kv0 (by decide) rfl rfl ml_X5_98 wy_X5_insertBottle wd_X5_insertBottle rfl rfl rfl ⟨Nat.le_of_ble_eq_true rfl, Nat.le_of_ble_eq_true rfl⟩ (Nat.le_of_ble_eq_true rfl) ⟨Nat.zero_le _, Nat.zero_le _⟩ dX5_addBottle_94 (fun H locs hP hS => ?_)
    refine lv_iload_n hx hb dX5_addBottle_97 rfl (lv_at hl 2 rfl) ?_
    cases h
    exact mt_i hC hr hlk K hP hS dX5_addBottle_98
  · replace h := mc_ie h c2
    refine lv_aload_n hx hb dX5_addBottle_25 rfl (lv_at hl 0 rfl) ?_
    refine lv_iload_n hx hb dX5_addBottle_26 rfl (lv_at hl 3 rfl) ?_
    obtain ⟨r6, e7, h⟩ := mc_ob_e h
    refine mg_Vr (As := [.int v3]) (rest := []) (ct_X5_bottleAt l (w := w) (I := I) (R := R) kv0 e7) C K hP hS hl.1 kv0 (by decide) rfl rfl ml_X5_62 wy_X5_bottleAt wd_X5_bottleAt rfl rfl rfl ⟨Nat.le_of_ble_eq_true rfl, Nat.le_of_ble_eq_true rfl⟩ (Nat.le_of_ble_eq_true rfl) ⟨Nat.zero_le _, Nat.zero_le _⟩ dX5_addBottle_27 (fun H locs hP tr6 hS => ?_)
    refine mv_astore (i := 4) (lv' := [(4, va_re w.2.2.1 r6), (0, .ref (w.2.2.1 v0)), (1, .int v1), (2, .int v2), (3, .int v3)]) hC dX5_addBottle_30 hl (by decide) rfl (fun ls hl => ?_)
    refine mv_aload hC dX5_addBottle_32 (lv_at hl 0 rfl) ?_
    rcases r6 with _ | b8
    · replace h := mc_om_n h
      refine lv_ifnullN (tgt := 61) hx hb dX5_addBottle_34 (by decide) ?_
      have hl : lv_has ls 5 [(4, va_re w.2.2.1 none), (0, .ref (w.2.2.1 v0)), (1, .int v1), (2, .int v2), (3, .int v3)] := hl
      exact bk_X5_addBottle_J61 C hr hlk K hk17 I R v0 v1 v2 v3 none h kv0 (fun _ h => nomatch h) hP hS (lv_sub hl [1, 2, 3, 4, 0] rfl)
    · replace h := mc_om_s h
      have kb8 := tr6 b8 rfl
      refine lv_ifnull hx hb dX5_addBottle_34 ?_
      have hl : lv_has ls 5 [(4, .ref (w.2.2.1 b8)), (0, .ref (w.2.2.1 v0)), (1, .int v1), (2, .int v2), (3, .int v3)] := hl
      refine lv_aload hx hb dX5_addBottle_37 (lv_at hl 0 rfl) ?_
      refine mf_X5_95 C K hP kb8 dX5_addBottle_39 ?_
      refine lv_aload_n hx hb dX5_addBottle_42 rfl (lv_at hl 1 rfl) ?_
      refine mf_X5_12 C K hP kv0 dX5_addBottle_43 ?_
      refine mf_X5_69 C K hP (kk_5_1 kv0) dX5_addBottle_46 ?_
      refine lv_isub hx hb dX5_addBottle_49 ?_
      refine mm_abs C hl.1 ml_X5_72 (Nat.le_of_ble_eq_true rfl) (Nat.le_of_ble_eq_true rfl) ⟨Nat.zero_le _, Nat.zero_le _⟩ dX5_addBottle_50 ?_
      refine lv_iconst (v := 5) hx hb dX5_addBottle_53 (by decide) ?_
      refine lv_icmp_ge (tgt := 61) hx hb dX5_addBottle_54 (by decide) (fun c15 => ?_) (fun c15 => ?_)
      · replace h := mc_it h c15
        exact bk_X5_addBottle_J61 C hr hlk K hk17 I R v0 v1 v2 v3 (some b8) h kv0 (fun b hb => by cases hb; exact kb8) hP hS (lv_sub hl [1, 2, 3, 4, 0] rfl)
      · replace h := mc_ie h c15
        refine lv_sipush (v := (-1004)) hx hb dX5_addBottle_57 (by decide) ?_
        cases h
        exact mt_i hC hr hlk K hP hS dX5_addBottle_60
theorem bk_X5_addBottle_L17 {p : Program} {l : Launch} {e : Env} {s : State} {m : MethodId} {args : Array Value} {below : List Frame} {meth : Method} {c : Code} (C : CallFix p m c cX5_addBottle 5 s args mc_big RX5) (hr : meth.sig.returnType = (some .int)) (hlk : meth.locks = false) {w : mc_w} (K : mc_K mc_k 152 w s) {F : Nat} {Iz : Nat → Nat → Int32} {Rz : Nat → Nat → Option Nat} {rz : Int32} : ∀ n : Nat, ∀ (I : Nat → Nat → Int32) (R : Nat → Nat → Option Nat) (v0 : Nat) (v1 : Int32) (v2 : Int32) (v3 : Int32), mi_X5_addBottle_L17 F n I R v0 v1 v2 v3 = some (Iz, Rz, rz) → (mc_k v0 = 5) → ∀ {H : Heap} {locs : List Loc} {ls : Array Slot}, mc_P mc_k 152 w I R H → va_S (mc_A 152 w) s.heap H locs → lv_has ls 5 [(0, .ref (w.2.2.1 v0)), (1, .int v1), (2, .int v2), (3, .int v3)] → W p l e ({ frames := 2, cells := 0, slots := 0, locals := 46 } : Room) s m args below meth c H locs 0 0 (MQ below (mc_Q (some (.int rz)) (mc_B mc_k 152 w Iz Rz) (mc_A 152 w)) args s 0 0 (mc_A 152 w)) (F0 m 17 ls []) := by
  intro n
  induction n with
  | zero =>
    intro I R v0 v1 v2 v3 h
    cases h
  | succ n ih =>
    intro I R v0 v1 v2 v3 h
    exact bk_X5_addBottle_B17 C hr hlk K  ih I R v0 v1 v2 v3 h
set_option maxHeartbeats 4000000 in
set_option maxRecDepth 100000 in
theorem ct_X5_addBottle (l : Launch) {w : mc_w} {I : Nat → Nat → Int32} {R : Nat → Nat → Option Nat} {F : Nat} {v0 : Nat} {v1 : Int32} (kv0 : mc_k v0 = 5) {Iz : Nat → Nat → Int32} {Rz : Nat → Nat → Option Nat} {rz : Int32} (h : mi_X5_addBottle F I R v0 v1 = some (Iz, Rz, rz)) : Met l yX5_addBottle (Cond.code yX5_addBottle cX5_addBottle 5 (some .int) :: mc_big) ({ frames := 2, cells := 0, slots := 0, locals := 46 } : Room) (va_Pc [.ref (w.2.2.1 v0), .int v1] (mc_B mc_k 152 w I R)) (mc_Q (some (.int rz)) (mc_B mc_k 152 w Iz Rz) (mc_A 152 w)) 0 0 (mc_A 152 w) := by
  refine Met.ofW (cc := cX5_addBottle) (maxL := 5) (ret := (some .int)) (by decide) rfl ?_
  intro p e s m args below meth c s₁ B hml hv
  obtain ⟨rfl, hP, K⟩ := hv
  have hown : s.vm.findClass RX5 = some m.cls := findClass_of_methodNamed B.named
  have C : CallFix p m c cX5_addBottle 5 s _ mc_big RX5 := ⟨B.exec, B.bytes, hml, hown, fun w hw => atoms_spec B.pre w (List.mem_cons_of_mem _ hw)⟩
  have hx := C.1
  have hb := C.2.1
  have hC := And.intro C.1 C.2.1
  have hr := B.returns
  have hlk := B.notSynchronized
  have hS : va_S (mc_A 152 w) s.heap s.heap [] := va_S.rf
  have hl := lv_entry ([.ref (w.2.2.1 v0), .int v1]) (n := 5) (Nat.le_of_ble_eq_true rfl)
  rw [lg_entry_eq]
  generalize (lg_sl ([.ref (w.2.2.1 v0), .int v1]) ++ List.replicate (5 - (lg_sl ([.ref (w.2.2.1 v0), .int v1])).length) Slot.unset).toArray = ls at hl ⊢
  have hl : lv_has ls 5 [(0, .ref (w.2.2.1 v0)), (1, .int v1)] := hl
  unfold mi_X5_addBottle at h
  refine lv_aload_n hx hb dX5_addBottle_0 rfl (lv_at hl 0 rfl) ?_
  refine mf_X5_56 C K hP kv0 dX5_addBottle_1 ?_
  refine lv_bipush (v := 10) hx hb dX5_addBottle_4 (by decide) ?_
  refine lv_icmp_lt (tgt := 13) hx hb dX5_addBottle_6 (by decide) (fun c1 => ?_) (fun c1 => ?_)
  · replace h := mc_it h c1
    refine lv_iconst (v := 0) hx hb dX5_addBottle_13 (by decide) ?_
    refine lv_istore_n (i := 2) (lv' := [(2, .int 0), (0, .ref (w.2.2.1 v0)), (1, .int v1)]) hx hb dX5_addBottle_14 rfl hl (by decide) rfl (fun ls hl => ?_)
    refine lv_iconst (v := 0) hx hb dX5_addBottle_15 (by decide) ?_
    refine lv_istore_n (i := 3) (lv' := [(3, .int 0), (2, .int 0), (0, .ref (w.2.2.1 v0)), (1, .int v1)]) hx hb dX5_addBottle_16 rfl hl (by decide) rfl (fun ls hl => ?_)
    exact bk_X5_addBottle_L17 C hr hlk K  F I R v0 v1 0 0 h kv0 hP hS (lv_sub hl [2, 3, 1, 0] rfl)
  · replace h := mc_ie h c1
    refine lv_sipush (v := (-1003)) hx hb dX5_addBottle_9 (by decide) ?_
    cases h
    exact mt_i hC hr hlk K hP hS dX5_addBottle_12
set_option maxHeartbeats 4000000 in
set_option maxRecDepth 100000 in
theorem bk_X5_removeBottle_J74 {p : Program} {l : Launch} {e : Env} {s : State} {m : MethodId} {args : Array Value} {below : List Frame} {meth : Method} {c : Code} (C : CallFix p m c cX5_removeBottle 4 s args mc_big RX5) (hr : meth.sig.returnType = (some .int)) (hlk : meth.locks = false) {w : mc_w} (K : mc_K mc_k 152 w s) {F : Nat} {Iz : Nat → Nat → Int32} {Rz : Nat → Nat → Option Nat} {rz : Int32} : ∀ (I : Nat → Nat → Int32) (R : Nat → Nat → Option Nat) (v0 : Nat) (v2 : Nat), mi_X5_removeBottle_J74 F I R v0 v2 = some (Iz, Rz, rz) → (mc_k v0 = 5) → (mc_k v2 = 0) → ∀ {H : Heap} {locs : List Loc} {ls : Array Slot}, mc_P mc_k 152 w I R H → va_S (mc_A 152 w) s.heap H locs → lv_has ls 4 [(0, .ref (w.2.2.1 v0)), (2, .ref (w.2.2.1 v2))] → W p l e ({ frames := 1, cells := 0, slots := 0, locals := 21 } : Room) s m args below meth c H locs 0 0 (MQ below (mc_Q (some (.int rz)) (mc_B mc_k 152 w Iz Rz) (mc_A 152 w)) args s 0 0 (mc_A 152 w)) (F0 m 74 ls []) := by
  intro I R v0 v2 h kv0 kv2 H locs ls hP hS hl
  have hx := C.1
  have hb := C.2.1
  have hC := And.intro C.1 C.2.1
  unfold mi_X5_removeBottle_J74 at h
  refine lv_aload_n hx hb dX5_removeBottle_74 rfl (lv_at hl 0 rfl) ?_
  refine lv_dup hx hb dX5_removeBottle_75 rfl ?_
  refine mf_X5_56 C K hP kv0 dX5_removeBottle_76 ?_
  refine lv_iconst (v := 1) hx hb dX5_removeBottle_79 (by decide) ?_
  refine lv_isub hx hb dX5_removeBottle_80 ?_
  obtain ⟨I8, eI8, h⟩ := mc_bn_e h
  refine mp_X5_56 C K hP hS kv0 eI8 dX5_removeBottle_81 (fun H locs hP hS => ?_)
  refine lv_aload_n hx hb dX5_removeBottle_84 rfl (lv_at hl 0 rfl) ?_
  refine mf_X5_56 C K hP kv0 dX5_removeBottle_85 ?_
  refine lv_if_lt (tgt := 110) hx hb dX5_removeBottle_88 (by decide) (fun c9 => ?_) (fun c9 => ?_)
  · replace h := mc_it h c9
    refine lv_aload_n hx hb dX5_removeBottle_110 rfl (lv_at hl 0 rfl) ?_
    refine mf_X5_56 C K hP kv0 dX5_removeBottle_111 ?_
    cases h
    exact mt_i hC hr hlk K hP hS dX5_removeBottle_114
  · replace h := mc_ie h c9
    refine lv_aload_n hx hb dX5_removeBottle_91 rfl (lv_at hl 0 rfl) ?_
    refine mf_X5_56 C K hP kv0 dX5_removeBottle_92 ?_
    refine lv_bipush (v := 10) hx hb dX5_removeBottle_95 (by decide) ?_
    refine lv_icmp_ge (tgt := 110) hx hb dX5_removeBottle_97 (by decide) (fun c10 => ?_) (fun c10 => ?_)
    · replace h := mc_it h c10
      refine lv_aload_n hx hb dX5_removeBottle_110 rfl (lv_at hl 0 rfl) ?_
      refine mf_X5_56 C K hP kv0 dX5_removeBottle_111 ?_
      cases h
      exact mt_i hC hr hlk K hP hS dX5_removeBottle_114
    · replace h := mc_ie h c10
      refine lv_aload_n hx hb dX5_removeBottle_100 rfl (lv_at hl 0 rfl) ?_
      refine mf_X5_34 C K hP kv0 dX5_removeBottle_101 ?_
      refine lv_aload_n hx hb dX5_removeBottle_104 rfl (lv_at hl 0 rfl) ?_
      refine mf_X5_56 C K hP kv0 dX5_removeBottle_105 ?_
      refine lv_aload_n hx hb dX5_removeBottle_108 rfl (lv_at hl 1 rfl) ?_
      obtain ⟨g11, h⟩ := mc_gd h
      obtain ⟨R12, eR12, h⟩ := mc_bn_e h
      refine ma_s12 (x := (some v2)) hC K hP hS (kk_5_7 kv0) (fun b hb => by cases hb; exact kv2) g11 eR12 dX5_removeBottle_109 (fun H locs hP hS => ?_)
      refine lv_aload_n hx hb dX5_removeBottle_110 rfl (lv_at hl 0 rfl) ?_
      refine mf_X5_56 C K hP kv0 dX5_removeBottle_111 ?_
      cases h
      exact mt_i hC hr hlk K hP hS dX5_removeBottle_114
set_option maxHeartbeats 4000000 in
set_option maxRecDepth 100000 in
theorem bk_X5_removeBottle_B34 {p : Program} {l : Launch} {e : Env} {s : State} {m : MethodId} {args : Array Value} {below : List Frame} {meth : Method} {c : Code} (C : CallFix p m c cX5_removeBottle 4 s args mc_big RX5) (hr : meth.sig.returnType = (some .int)) (hlk : meth.locks = false) {w : mc_w} (K : mc_K mc_k 152 w s) {F : Nat} {Iz : Nat → Nat → Int32} {Rz : Nat → Nat → Option Nat} {rz : Int32} {k34 : (Nat → Nat → Int32) → (Nat → Nat → Option Nat) → Nat → Nat → Int32 → (Option ((Nat → Nat → Int32) × (Nat → Nat → Option Nat) × Int32))} (hk34 : ∀ (I : Nat → Nat → Int32) (R : Nat → Nat → Option Nat) (v0 : Nat) (v2 : Nat) (v3 : Int32), k34 I R v0 v2 v3 = some (Iz, Rz, rz) → (mc_k v0 = 5) → (mc_k v2 = 0) → ∀ {H : Heap} {locs : List Loc} {ls : Array Slot}, mc_P mc_k 152 w I R H → va_S (mc_A 152 w) s.heap H locs → lv_has ls 4 [(0, .ref (w.2.2.1 v0)), (2, .ref (w.2.2.1 v2)), (3, .int v3)] → W p l e ({ frames := 1, cells := 0, slots := 0, locals := 21 } : Room) s m args below meth c H locs 0 0 (MQ below (mc_Q (some (.int rz)) (mc_B mc_k 152 w Iz Rz) (mc_A 152 w)) args s 0 0 (mc_A 152 w)) (F0 m 34 ls [])) : ∀ (I : Nat → Nat → Int32) (R : Nat → Nat → Option Nat) (v0 : Nat) (v2 : Nat) (v3 : Int32), mi_X5_removeBottle_B34 k34 F I R v0 v2 v3 = some (Iz, Rz, rz) → (mc_k v0 = 5) → (mc_k v2 = 0) → ∀ {H : Heap} {locs : List Loc} {ls : Array Slot}, mc_P mc_k 152 w I R H → va_S (mc_A 152 w) s.heap H locs → lv_has ls 4 [(0, .ref (w.2.2.1 v0)), (2, .ref (w.2.2.1 v2)), (3, .int v3)] → W p l e ({ frames := 1, cells := 0, slots := 0, locals := 21 } : Room) s m args below meth c H locs 0 0 (MQ below (mc_Q (some (.int rz)) (mc_B mc_k 152 w Iz Rz) (mc_A 152 w)) args s 0 0 (mc_A 152 w)) (F0 m 34 ls []) := by
  intro I R v0 v2 v3 h kv0 kv2 H locs ls hP hS hl
  have hx := C.1
  have hb := C.2.1
  have hC := And.intro C.1 C.2.1
  unfold mi_X5_removeBottle_B34 at h
  refine lv_iload_n hx hb dX5_removeBottle_34 rfl (lv_at hl 2 rfl) ?_
  refine lv_if_lt (tgt := 74) hx hb dX5_removeBottle_35 (by decide) (fun c7 => ?_) (fun c7 => ?_)
  · replace h := mc_it h c7
    exact bk_X5_removeBottle_J74 C hr hlk K  I R v0 v2 h kv0 kv2 hP hS (lv_sub hl [0, 1] rfl)
  · replace h := mc_ie h c7
    refine lv_iload_n hx hb dX5_removeBottle_38 rfl (lv_at hl 2 rfl) ?_
    refine lv_aload_n hx hb dX5_removeBottle_39 rfl (lv_at hl 0 rfl) ?_
    refine mf_X5_56 C K hP kv0 dX5_removeBottle_40 ?_
    refine lv_iconst (v := 1) hx hb dX5_removeBottle_43 (by decide) ?_
    refine lv_isub hx hb dX5_removeBottle_44 ?_
    refine lv_icmp_ge (tgt := 74) hx hb dX5_removeBottle_45 (by decide) (fun c13 => ?_) (fun c13 => ?_)
    · replace h := mc_it h c13
      exact bk_X5_removeBottle_J74 C hr hlk K  I R v0 v2 h kv0 kv2 hP hS (lv_sub hl [0, 1] rfl)
    · replace h := mc_ie h c13
      refine lv_iload_n hx hb dX5_removeBottle_48 rfl (lv_at hl 2 rfl) ?_
      refine lv_bipush (v := 9) hx hb dX5_removeBottle_49 (by decide) ?_
      refine lv_icmp_ge (tgt := 74) hx hb dX5_removeBottle_51 (by decide) (fun c14 => ?_) (fun c14 => ?_)
      · replace h := mc_it h c14
        exact bk_X5_removeBottle_J74 C hr hlk K  I R v0 v2 h kv0 kv2 hP hS (lv_sub hl [0, 1] rfl)
      · replace h := mc_ie h c14
        refine lv_aload_n hx hb dX5_removeBottle_54 rfl (lv_at hl 0 rfl) ?_
        refine mf_X5_34 C K hP kv0 dX5_removeBottle_55 ?_
        refine lv_iload_n hx hb dX5_removeBottle_58 rfl (lv_at hl 2 rfl) ?_
        refine lv_aload_n hx hb dX5_removeBottle_59 rfl (lv_at hl 0 rfl) ?_
        refine mf_X5_34 C K hP kv0 dX5_removeBottle_60 ?_
        refine lv_iload_n hx hb dX5_removeBottle_63 rfl (lv_at hl 2 rfl) ?_
        refine lv_iconst (v := 1) hx hb dX5_removeBottle_64 (by decide) ?_
        refine lv_iadd hx hb dX5_removeBottle_65 ?_
        obtain ⟨g15, h⟩ := mc_gd h
        obtain ⟨y16, ey16, h⟩ := mc_bn_e h
        have ty16 : ∀ b, y16 = some b → mc_k b = 0 := fun b hb => (hP.2 _ _ b (ey16.symm.trans hb)).1 (kk_5_7 kv0)
        refine ma_l12 hC K hP (kk_5_7 kv0) g15 dX5_removeBottle_66 ?_
        refine mv_topr ey16 ?_
        obtain ⟨g17, h⟩ := mc_gd h
        obtain ⟨R18, eR18, h⟩ := mc_bn_e h
        refine ma_s12 (x := y16) hC K hP hS (kk_5_7 kv0) ty16 g17 eR18 dX5_removeBottle_67 (fun H locs hP hS => ?_)
        obtain ⟨x19, ex19, h⟩ := mc_bn_e h
        refine lv_iinc (v := x19) (lv' := [(3, .int x19), (0, .ref (w.2.2.1 v0)), (2, .ref (w.2.2.1 v2))]) hx hb dX5_removeBottle_68 hl (k := 2) rfl (by rw [ex19]; rfl) (by decide) rfl (fun ls hl => ?_)
        refine lv_goto (tgt := 34) hx hb dX5_removeBottle_71 (by decide) ?_
        exact hk34 I R18 v0 v2 x19 h kv0 kv2 hP hS (lv_sub hl [1, 2, 0] rfl)
theorem bk_X5_removeBottle_L34 {p : Program} {l : Launch} {e : Env} {s : State} {m : MethodId} {args : Array Value} {below : List Frame} {meth : Method} {c : Code} (C : CallFix p m c cX5_removeBottle 4 s args mc_big RX5) (hr : meth.sig.returnType = (some .int)) (hlk : meth.locks = false) {w : mc_w} (K : mc_K mc_k 152 w s) {F : Nat} {Iz : Nat → Nat → Int32} {Rz : Nat → Nat → Option Nat} {rz : Int32} : ∀ n : Nat, ∀ (I : Nat → Nat → Int32) (R : Nat → Nat → Option Nat) (v0 : Nat) (v2 : Nat) (v3 : Int32), mi_X5_removeBottle_L34 F n I R v0 v2 v3 = some (Iz, Rz, rz) → (mc_k v0 = 5) → (mc_k v2 = 0) → ∀ {H : Heap} {locs : List Loc} {ls : Array Slot}, mc_P mc_k 152 w I R H → va_S (mc_A 152 w) s.heap H locs → lv_has ls 4 [(0, .ref (w.2.2.1 v0)), (2, .ref (w.2.2.1 v2)), (3, .int v3)] → W p l e ({ frames := 1, cells := 0, slots := 0, locals := 21 } : Room) s m args below meth c H locs 0 0 (MQ below (mc_Q (some (.int rz)) (mc_B mc_k 152 w Iz Rz) (mc_A 152 w)) args s 0 0 (mc_A 152 w)) (F0 m 34 ls []) := by
  intro n
  induction n with
  | zero =>
    intro I R v0 v2 v3 h
    cases h
  | succ n ih =>
    intro I R v0 v2 v3 h
    exact bk_X5_removeBottle_B34 C hr hlk K  ih I R v0 v2 v3 h
set_option maxHeartbeats 4000000 in
set_option maxRecDepth 100000 in
theorem ct_X5_removeBottle (l : Launch) {w : mc_w} {I : Nat → Nat → Int32} {R : Nat → Nat → Option Nat} {F : Nat} {v0 : Nat} {v1 : Int32} (kv0 : mc_k v0 = 5) {Iz : Nat → Nat → Int32} {Rz : Nat → Nat → Option Nat} {rz : Int32} (h : mi_X5_removeBottle F I R v0 v1 = some (Iz, Rz, rz)) : Met l yX5_removeBottle (Cond.code yX5_removeBottle cX5_removeBottle 4 (some .int) :: mc_big) ({ frames := 1, cells := 0, slots := 0, locals := 21 } : Room) (va_Pc [.ref (w.2.2.1 v0), .int v1] (mc_B mc_k 152 w I R)) (mc_Q (some (.int rz)) (mc_B mc_k 152 w Iz Rz) (mc_A 152 w)) 0 0 (mc_A 152 w) := by
  refine Met.ofW (cc := cX5_removeBottle) (maxL := 4) (ret := (some .int)) (by decide) rfl ?_
  intro p e s m args below meth c s₁ B hml hv
  obtain ⟨rfl, hP, K⟩ := hv
  have hown : s.vm.findClass RX5 = some m.cls := findClass_of_methodNamed B.named
  have C : CallFix p m c cX5_removeBottle 4 s _ mc_big RX5 := ⟨B.exec, B.bytes, hml, hown, fun w hw => atoms_spec B.pre w (List.mem_cons_of_mem _ hw)⟩
  have hx := C.1
  have hb := C.2.1
  have hC := And.intro C.1 C.2.1
  have hr := B.returns
  have hlk := B.notSynchronized
  have hS : va_S (mc_A 152 w) s.heap s.heap [] := va_S.rf
  have hl := lv_entry ([.ref (w.2.2.1 v0), .int v1]) (n := 4) (Nat.le_of_ble_eq_true rfl)
  rw [lg_entry_eq]
  generalize (lg_sl ([.ref (w.2.2.1 v0), .int v1]) ++ List.replicate (4 - (lg_sl ([.ref (w.2.2.1 v0), .int v1])).length) Slot.unset).toArray = ls at hl ⊢
  have hl : lv_has ls 4 [(0, .ref (w.2.2.1 v0)), (1, .int v1)] := hl
  unfold mi_X5_removeBottle at h
  refine lv_aload_n hx hb dX5_removeBottle_0 rfl (lv_at hl 0 rfl) ?_
  refine lv_iload_n hx hb dX5_removeBottle_1 rfl (lv_at hl 1 rfl) ?_
  obtain ⟨r1, e2, h⟩ := mc_ob_e h
  refine mg_Vr (As := [.int v1]) (rest := []) (ct_X5_bottleAt l (w := w) (I := I) (R := R) kv0 e2) C K hP hS hl.1 kv0 (by decide) rfl rfl ml_X5_62 wy_X5_bottleAt wd_X5_bottleAt rfl rfl rfl ⟨Nat.le_of_ble_eq_true rfl, Nat.le_of_ble_eq_true rfl⟩ (Nat.le_of_ble_eq_true rfl) ⟨Nat.zero_le _, Nat.zero_le _⟩ dX5_removeBottle_2 (fun H locs hP tr1 hS => ?_)
  refine mv_astore_n (i := 2) (lv' := [(2, va_re w.2.2.1 r1), (0, .ref (w.2.2.1 v0)), (1, .int v1)]) hC dX5_removeBottle_5 rfl hl (by decide) rfl (fun ls hl => ?_)
  refine mv_aload_n hC dX5_removeBottle_6 rfl (lv_at hl 0 rfl) ?_
  rcases r1 with _ | b3
  · replace h := mc_om_n h
    refine lv_ifnonnullN hx hb dX5_removeBottle_7 ?_
    have hl : lv_has ls 4 [(2, va_re w.2.2.1 none), (0, .ref (w.2.2.1 v0)), (1, .int v1)] := hl
    refine lv_sipush (v := (-1001)) hx hb dX5_removeBottle_10 (by decide) ?_
    cases h
    exact mt_i hC hr hlk K hP hS dX5_removeBottle_13
  · replace h := mc_om_s h
    have kb3 := tr1 b3 rfl
    refine lv_ifnonnull (tgt := 14) hx hb dX5_removeBottle_7 (by decide) ?_
    have hl : lv_has ls 4 [(2, .ref (w.2.2.1 b3)), (0, .ref (w.2.2.1 v0)), (1, .int v1)] := hl
    refine lv_aload_n hx hb dX5_removeBottle_14 rfl (lv_at hl 1 rfl) ?_
    refine mf_X5_12 C K hP kv0 dX5_removeBottle_15 ?_
    refine lv_aload_n hx hb dX5_removeBottle_18 rfl (lv_at hl 0 rfl) ?_
    refine mf_X5_95 C K hP kb3 dX5_removeBottle_19 ?_
    refine mg_Vz (As := [.int (I b3 0)]) (rest := []) (ct_X1_isInWater l (w := w) (I := I) (R := R) (kk_5_1 kv0) rfl) C K hP hS hl.1 (kk_5_1 kv0) (by decide) rfl rfl ml_X5_102 wy_X1_isInWater wd_X1_isInWater rfl rfl rfl ⟨Nat.le_of_ble_eq_true rfl, Nat.le_of_ble_eq_true rfl⟩ (Nat.le_of_ble_eq_true rfl) ⟨Nat.zero_le _, Nat.zero_le _⟩ dX5_removeBottle_22 (fun H locs hP z5 hS => ?_)
    refine lv_if_eq (tgt := 32) hx hb dX5_removeBottle_25 (by decide) (fun c6 => ?_) (fun c6 => ?_)
    · replace h := mc_it h c6
      refine lv_iload_n hx hb dX5_removeBottle_32 rfl (lv_at hl 2 rfl) ?_
      refine lv_istore_n (i := 3) (lv' := [(3, .int v1), (2, .ref (w.2.2.1 b3)), (0, .ref (w.2.2.1 v0)), (1, .int v1)]) hx hb dX5_removeBottle_33 rfl hl (by decide) rfl (fun ls hl => ?_)
      exact bk_X5_removeBottle_L34 C hr hlk K  F I R v0 b3 v1 h kv0 kb3 hP hS (lv_sub hl [2, 1, 0] rfl)
    · replace h := mc_ie h c6
      refine lv_sipush (v := (-1004)) hx hb dX5_removeBottle_28 (by decide) ?_
      cases h
      exact mt_i hC hr hlk K hP hS dX5_removeBottle_31
set_option maxHeartbeats 4000000 in
set_option maxRecDepth 100000 in
theorem ct_X5_letGo (l : Launch) {w : mc_w} {I : Nat → Nat → Int32} {R : Nat → Nat → Option Nat} {v0 : Nat} (kv0 : mc_k v0 = 5) {Iz : Nat → Nat → Int32} {rz : Int32} (h : mi_X5_letGo I v0 = some (Iz, rz)) : Met l yX5_letGo (Cond.code yX5_letGo cX5_letGo 1 (some .int) :: mc_big) ({ frames := 1, cells := 0, slots := 0, locals := 22 } : Room) (va_Pc [.ref (w.2.2.1 v0)] (mc_B mc_k 152 w I R)) (mc_Q (some (.int rz)) (mc_B mc_k 152 w Iz R) (mc_A 152 w)) 0 0 (mc_A 152 w) := by
  refine Met.ofW (cc := cX5_letGo) (maxL := 1) (ret := (some .int)) (by decide) rfl ?_
  intro p e s m args below meth c s₁ B hml hv
  obtain ⟨rfl, hP, K⟩ := hv
  have hown : s.vm.findClass RX5 = some m.cls := findClass_of_methodNamed B.named
  have C : CallFix p m c cX5_letGo 1 s _ mc_big RX5 := ⟨B.exec, B.bytes, hml, hown, fun w hw => atoms_spec B.pre w (List.mem_cons_of_mem _ hw)⟩
  have hx := C.1
  have hb := C.2.1
  have hC := And.intro C.1 C.2.1
  have hr := B.returns
  have hlk := B.notSynchronized
  have hS : va_S (mc_A 152 w) s.heap s.heap [] := va_S.rf
  have hl := lv_entry ([.ref (w.2.2.1 v0)]) (n := 1) (Nat.le_of_ble_eq_true rfl)
  rw [lg_entry_eq]
  generalize (lg_sl ([.ref (w.2.2.1 v0)]) ++ List.replicate (1 - (lg_sl ([.ref (w.2.2.1 v0)])).length) Slot.unset).toArray = ls at hl ⊢
  have hl : lv_has ls 1 [(0, .ref (w.2.2.1 v0))] := hl
  unfold mi_X5_letGo at h
  refine lv_aload_n hx hb dX5_letGo_0 rfl (lv_at hl 0 rfl) ?_
  refine mf_X5_12 C K hP kv0 dX5_letGo_1 ?_
  refine mf_X5_69 C K hP (kk_5_1 kv0) dX5_letGo_4 ?_
  refine lv_if_ne (tgt := 14) hx hb dX5_letGo_7 (by decide) (fun c1 => ?_) (fun c1 => ?_)
  · replace h := mc_ie h c1
    refine lv_aload_n hx hb dX5_letGo_14 rfl (lv_at hl 0 rfl) ?_
    refine mf_X5_28 C K hP kv0 dX5_letGo_15 ?_
    refine mf_X5_106 C K hP (kk_5_5 kv0) dX5_letGo_18 ?_
    refine lv_bipush (v := 12) hx hb dX5_letGo_21 (by decide) ?_
    refine lv_icmp_lt (tgt := 30) hx hb dX5_letGo_23 (by decide) (fun c2 => ?_) (fun c2 => ?_)
    · replace h := mc_it h c2
      refine lv_aload_n hx hb dX5_letGo_30 rfl (lv_at hl 0 rfl) ?_
      refine mf_X5_28 C K hP kv0 dX5_letGo_31 ?_
      refine lv_aload_n hx hb dX5_letGo_34 rfl (lv_at hl 0 rfl) ?_
      refine mf_X5_28 C K hP kv0 dX5_letGo_35 ?_
      refine mf_X5_106 C K hP (kk_5_5 kv0) dX5_letGo_38 ?_
      refine lv_aload_n hx hb dX5_letGo_41 rfl (lv_at hl 0 rfl) ?_
      refine mf_X5_12 C K hP kv0 dX5_letGo_42 ?_
      refine mf_X5_69 C K hP (kk_5_1 kv0) dX5_letGo_45 ?_
      obtain ⟨I3, e4, h⟩ := mc_ob_e h
      refine mg_Vv (As := [.int (I (v0 + 5) 1), .int (I (v0 + 1) 0)]) (rest := []) (ct_X4_put l (w := w) (I := I) (R := R) (kk_5_5 kv0) e4) C K hP hS hl.1 (kk_5_5 kv0) (by decide) rfl rfl ml_X5_109 wy_X4_put wd_X4_put rfl rfl rfl ⟨Nat.le_of_ble_eq_true rfl, Nat.le_of_ble_eq_true rfl⟩ (Nat.le_of_ble_eq_true rfl) ⟨Nat.zero_le _, Nat.zero_le _⟩ dX5_letGo_48 (fun H locs hP hS => ?_)
      refine lv_aload_n hx hb dX5_letGo_51 rfl (lv_at hl 0 rfl) ?_
      refine mf_X5_28 C K hP kv0 dX5_letGo_52 ?_
      refine lv_dup hx hb dX5_letGo_55 rfl ?_
      refine mf_X5_106 C K hP (kk_5_5 kv0) dX5_letGo_56 ?_
      refine lv_iconst (v := 1) hx hb dX5_letGo_59 (by decide) ?_
      refine lv_iadd hx hb dX5_letGo_60 ?_
      obtain ⟨I5, eI5, h⟩ := mc_bn_e h
      refine mp_X5_106 C K hP hS (kk_5_5 kv0) eI5 dX5_letGo_61 (fun H locs hP hS => ?_)
      refine lv_aload_n hx hb dX5_letGo_64 rfl (lv_at hl 0 rfl) ?_
      refine mf_X5_28 C K hP kv0 dX5_letGo_65 ?_
      refine lv_dup hx hb dX5_letGo_68 rfl ?_
      refine mf_X5_113 C K hP (kk_5_5 kv0) dX5_letGo_69 ?_
      refine lv_iconst (v := 1) hx hb dX5_letGo_72 (by decide) ?_
      refine lv_iadd hx hb dX5_letGo_73 ?_
      obtain ⟨I6, eI6, h⟩ := mc_bn_e h
      refine mp_X5_113 C K hP hS (kk_5_5 kv0) eI6 dX5_letGo_74 (fun H locs hP hS => ?_)
      refine lv_aload_n hx hb dX5_letGo_77 rfl (lv_at hl 0 rfl) ?_
      refine mf_X5_28 C K hP kv0 dX5_letGo_78 ?_
      refine mf_X5_106 C K hP (kk_5_5 kv0) dX5_letGo_81 ?_
      cases h
      exact mt_i hC hr hlk K hP hS dX5_letGo_84
    · replace h := mc_ie h c2
      refine lv_sipush (v := (-1003)) hx hb dX5_letGo_26 (by decide) ?_
      cases h
      exact mt_i hC hr hlk K hP hS dX5_letGo_29
  · replace h := mc_it h c1
    refine lv_sipush (v := (-1004)) hx hb dX5_letGo_10 (by decide) ?_
    cases h
    exact mt_i hC hr hlk K hP hS dX5_letGo_13
set_option maxHeartbeats 4000000 in
set_option maxRecDepth 100000 in
theorem bk_X5_shutBottles_B4 {p : Program} {l : Launch} {e : Env} {s : State} {m : MethodId} {args : Array Value} {below : List Frame} {meth : Method} {c : Code} (C : CallFix p m c cX5_shutBottles 4 s args mc_big RX5) (hr : meth.sig.returnType = (some .int)) (hlk : meth.locks = false) {w : mc_w} (K : mc_K mc_k 152 w s) {I : Nat → Nat → Int32} {R : Nat → Nat → Option Nat} {F : Nat} {rz : Int32} {k4 : (Nat → Nat → Int32) → (Nat → Nat → Option Nat) → Nat → Int32 → Int32 → Option (Int32)} (hk4 : ∀ (v0 : Nat) (v1 : Int32) (v2 : Int32), k4 I R v0 v1 v2 = some rz → (mc_k v0 = 5) → ∀ {H : Heap} {locs : List Loc} {ls : Array Slot}, mc_P mc_k 152 w I R H → va_S (mc_A 152 w) s.heap H locs → lv_has ls 4 [(0, .ref (w.2.2.1 v0)), (1, .int v1), (2, .int v2)] → W p l e ({ frames := 1, cells := 0, slots := 0, locals := 21 } : Room) s m args below meth c H locs 0 0 (MQ below (mc_Q (some (.int rz)) (mc_B mc_k 152 w I R) (mc_A 152 w)) args s 0 0 (mc_A 152 w)) (F0 m 4 ls [])) : ∀ (v0 : Nat) (v1 : Int32) (v2 : Int32), mi_X5_shutBottles_B4 k4 F I R v0 v1 v2 = some rz → (mc_k v0 = 5) → ∀ {H : Heap} {locs : List Loc} {ls : Array Slot}, mc_P mc_k 152 w I R H → va_S (mc_A 152 w) s.heap H locs → lv_has ls 4 [(0, .ref (w.2.2.1 v0)), (1, .int v1), (2, .int v2)] → W p l e ({ frames := 1, cells := 0, slots := 0, locals := 21 } : Room) s m args below meth c H locs 0 0 (MQ below (mc_Q (some (.int rz)) (mc_B mc_k 152 w I R) (mc_A 152 w)) args s 0 0 (mc_A 152 w)) (F0 m 4 ls []) := by
  intro v0 v1 v2 h kv0 H locs ls hP hS hl
  have hx := C.1
  have hb := C.2.1
  have hC := And.intro C.1 C.2.1
  unfold mi_X5_shutBottles_B4 at h
  refine lv_iload_n hx hb dX5_shutBottles_4 rfl (lv_at hl 2 rfl) ?_
  refine lv_aload_n hx hb dX5_shutBottles_5 rfl (lv_at hl 0 rfl) ?_
  refine mf_X5_56 C K hP kv0 dX5_shutBottles_6 ?_
  refine lv_icmp_ge (tgt := 38) hx hb dX5_shutBottles_9 (by decide) (fun c1 => ?_) (fun c1 => ?_)
  · replace h := mc_it h c1
    refine lv_iload_n hx hb dX5_shutBottles_38 rfl (lv_at hl 1 rfl) ?_
    cases h
    exact mt_i hC hr hlk K hP hS dX5_shutBottles_39
  · replace h := mc_ie h c1
    refine lv_aload_n hx hb dX5_shutBottles_12 rfl (lv_at hl 0 rfl) ?_
    refine lv_iload_n hx hb dX5_shutBottles_13 rfl (lv_at hl 2 rfl) ?_
    obtain ⟨r2, e3, h⟩ := mc_ob_e h
    refine mg_Vr (As := [.int v2]) (rest := []) (ct_X5_bottleAt l (w := w) (I := I) (R := R) kv0 e3) C K hP hS hl.1 kv0 (by decide) rfl rfl ml_X5_62 wy_X5_bottleAt wd_X5_bottleAt rfl rfl rfl ⟨Nat.le_of_ble_eq_true rfl, Nat.le_of_ble_eq_true rfl⟩ (Nat.le_of_ble_eq_true rfl) ⟨Nat.zero_le _, Nat.zero_le _⟩ dX5_shutBottles_14 (fun H locs hP tr2 hS => ?_)
    refine mv_astore_n (i := 3) (lv' := [(3, va_re w.2.2.1 r2), (0, .ref (w.2.2.1 v0)), (1, .int v1), (2, .int v2)]) hC dX5_shutBottles_17 rfl hl (by decide) rfl (fun ls hl => ?_)
    refine mv_aload_n hC dX5_shutBottles_18 rfl (lv_at hl 0 rfl) ?_
    rcases r2 with _ | b4
    · replace h := mc_om_n h
      refine lv_ifnullN (tgt := 32) hx hb dX5_shutBottles_19 (by decide) ?_
      have hl : lv_has ls 4 [(3, va_re w.2.2.1 none), (0, .ref (w.2.2.1 v0)), (1, .int v1), (2, .int v2)] := hl
      obtain ⟨x5, ex5, h⟩ := mc_bn_e h
      refine lv_iinc (v := x5) (lv' := [(2, .int x5), (3, va_re w.2.2.1 none), (0, .ref (w.2.2.1 v0)), (1, .int v1)]) hx hb dX5_shutBottles_32 hl (k := 3) rfl (by rw [ex5]; rfl) (by decide) rfl (fun ls hl => ?_)
      refine lv_goto (tgt := 4) hx hb dX5_shutBottles_35 (by decide) ?_
      exact hk4 v0 v1 x5 h kv0 hP hS (lv_sub hl [2, 3, 0] rfl)
    · replace h := mc_om_s h
      have kb4 := tr2 b4 rfl
      refine lv_ifnull hx hb dX5_shutBottles_19 ?_
      have hl : lv_has ls 4 [(3, .ref (w.2.2.1 b4)), (0, .ref (w.2.2.1 v0)), (1, .int v1), (2, .int v2)] := hl
      refine lv_aload_n hx hb dX5_shutBottles_22 rfl (lv_at hl 0 rfl) ?_
      refine mf_X5_130 C K hP kb4 dX5_shutBottles_23 ?_
      refine lv_if_eq (tgt := 32) hx hb dX5_shutBottles_26 (by decide) (fun c6 => ?_) (fun c6 => ?_)
      · replace h := mc_it h c6
        obtain ⟨x7, ex7, h⟩ := mc_bn_e h
        refine lv_iinc (v := x7) (lv' := [(2, .int x7), (3, .ref (w.2.2.1 b4)), (0, .ref (w.2.2.1 v0)), (1, .int v1)]) hx hb dX5_shutBottles_32 hl (k := 3) rfl (by rw [ex7]; rfl) (by decide) rfl (fun ls hl => ?_)
        refine lv_goto (tgt := 4) hx hb dX5_shutBottles_35 (by decide) ?_
        exact hk4 v0 v1 x7 h kv0 hP hS (lv_sub hl [2, 3, 0] rfl)
      · replace h := mc_ie h c6
        obtain ⟨x8, ex8, h⟩ := mc_bn_e h
        refine lv_iinc (v := x8) (lv' := [(1, .int x8), (3, .ref (w.2.2.1 b4)), (0, .ref (w.2.2.1 v0)), (2, .int v2)]) hx hb dX5_shutBottles_29 hl (k := 2) rfl (by rw [ex8]; rfl) (by decide) rfl (fun ls hl => ?_)
        obtain ⟨x9, ex9, h⟩ := mc_bn_e h
        refine lv_iinc (v := x9) (lv' := [(2, .int x9), (1, .int x8), (3, .ref (w.2.2.1 b4)), (0, .ref (w.2.2.1 v0))]) hx hb dX5_shutBottles_32 hl (k := 3) rfl (by rw [ex9]; rfl) (by decide) rfl (fun ls hl => ?_)
        refine lv_goto (tgt := 4) hx hb dX5_shutBottles_35 (by decide) ?_
        exact hk4 v0 x8 x9 h kv0 hP hS (lv_sub hl [3, 1, 0] rfl)
theorem bk_X5_shutBottles_L4 {p : Program} {l : Launch} {e : Env} {s : State} {m : MethodId} {args : Array Value} {below : List Frame} {meth : Method} {c : Code} (C : CallFix p m c cX5_shutBottles 4 s args mc_big RX5) (hr : meth.sig.returnType = (some .int)) (hlk : meth.locks = false) {w : mc_w} (K : mc_K mc_k 152 w s) {I : Nat → Nat → Int32} {R : Nat → Nat → Option Nat} {F : Nat} {rz : Int32} : ∀ n : Nat, ∀ (v0 : Nat) (v1 : Int32) (v2 : Int32), mi_X5_shutBottles_L4 F n I R v0 v1 v2 = some rz → (mc_k v0 = 5) → ∀ {H : Heap} {locs : List Loc} {ls : Array Slot}, mc_P mc_k 152 w I R H → va_S (mc_A 152 w) s.heap H locs → lv_has ls 4 [(0, .ref (w.2.2.1 v0)), (1, .int v1), (2, .int v2)] → W p l e ({ frames := 1, cells := 0, slots := 0, locals := 21 } : Room) s m args below meth c H locs 0 0 (MQ below (mc_Q (some (.int rz)) (mc_B mc_k 152 w I R) (mc_A 152 w)) args s 0 0 (mc_A 152 w)) (F0 m 4 ls []) := by
  intro n
  induction n with
  | zero =>
    intro v0 v1 v2 h
    cases h
  | succ n ih =>
    intro v0 v1 v2 h
    exact bk_X5_shutBottles_B4 C hr hlk K  ih v0 v1 v2 h
set_option maxHeartbeats 4000000 in
set_option maxRecDepth 100000 in
theorem ct_X5_shutBottles (l : Launch) {w : mc_w} {I : Nat → Nat → Int32} {R : Nat → Nat → Option Nat} {F : Nat} {v0 : Nat} (kv0 : mc_k v0 = 5) {rz : Int32} (h : mi_X5_shutBottles F I R v0 = some rz) : Met l yX5_shutBottles (Cond.code yX5_shutBottles cX5_shutBottles 4 (some .int) :: mc_big) ({ frames := 1, cells := 0, slots := 0, locals := 21 } : Room) (va_Pc [.ref (w.2.2.1 v0)] (mc_B mc_k 152 w I R)) (mc_Q (some (.int rz)) (mc_B mc_k 152 w I R) (mc_A 152 w)) 0 0 (mc_A 152 w) := by
  refine Met.ofW (cc := cX5_shutBottles) (maxL := 4) (ret := (some .int)) (by decide) rfl ?_
  intro p e s m args below meth c s₁ B hml hv
  obtain ⟨rfl, hP, K⟩ := hv
  have hown : s.vm.findClass RX5 = some m.cls := findClass_of_methodNamed B.named
  have C : CallFix p m c cX5_shutBottles 4 s _ mc_big RX5 := ⟨B.exec, B.bytes, hml, hown, fun w hw => atoms_spec B.pre w (List.mem_cons_of_mem _ hw)⟩
  have hx := C.1
  have hb := C.2.1
  have hC := And.intro C.1 C.2.1
  have hr := B.returns
  have hlk := B.notSynchronized
  have hS : va_S (mc_A 152 w) s.heap s.heap [] := va_S.rf
  have hl := lv_entry ([.ref (w.2.2.1 v0)]) (n := 4) (Nat.le_of_ble_eq_true rfl)
  rw [lg_entry_eq]
  generalize (lg_sl ([.ref (w.2.2.1 v0)]) ++ List.replicate (4 - (lg_sl ([.ref (w.2.2.1 v0)])).length) Slot.unset).toArray = ls at hl ⊢
  have hl : lv_has ls 4 [(0, .ref (w.2.2.1 v0))] := hl
  unfold mi_X5_shutBottles at h
  refine lv_iconst (v := 0) hx hb dX5_shutBottles_0 (by decide) ?_
  refine lv_istore_n (i := 1) (lv' := [(1, .int 0), (0, .ref (w.2.2.1 v0))]) hx hb dX5_shutBottles_1 rfl hl (by decide) rfl (fun ls hl => ?_)
  refine lv_iconst (v := 0) hx hb dX5_shutBottles_2 (by decide) ?_
  refine lv_istore_n (i := 2) (lv' := [(2, .int 0), (1, .int 0), (0, .ref (w.2.2.1 v0))]) hx hb dX5_shutBottles_3 rfl hl (by decide) rfl (fun ls hl => ?_)
  exact bk_X5_shutBottles_L4 C hr hlk K  F v0 0 0 h kv0 hP hS (lv_sub hl [2, 1, 0] rfl)

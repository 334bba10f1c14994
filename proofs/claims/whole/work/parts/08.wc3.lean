set_option maxHeartbeats 4000000 in
set_option maxRecDepth 100000 in
theorem ct_X8_type (l : Launch) {w : mc_w} {I : Nat → Nat → Int32} {R : Nat → Nat → Option Nat} {v1 : Int32} {Iz : Nat → Nat → Int32} {rz : Int32} (h : mi_X8_type I v1 = some (Iz, rz)) : Met l yX8_type (Cond.code yX8_type cX8_type 2 (some .int) :: mc_big) ({ frames := 1, cells := 0, slots := 0, locals := 21 } : Room) (va_Pc [.ref (w.2.2.1 144), .int v1] (mc_B mc_k 152 w I R)) (mc_Q (some (.int rz)) (mc_B mc_k 152 w Iz R) (mc_A 152 w)) 0 0 (mc_A 152 w) := by
  refine Met.ofW (cc := cX8_type) (maxL := 2) (ret := (some .int)) (by decide) rfl ?_
  intro p e s m args below meth c s₁ B hml hv
  obtain ⟨rfl, hP, K⟩ := hv
  have hown : s.vm.findClass RX8 = some m.cls := findClass_of_methodNamed B.named
  have C : CallFix p m c cX8_type 2 s _ mc_big RX8 := ⟨B.exec, B.bytes, hml, hown, fun w hw => atoms_spec B.pre w (List.mem_cons_of_mem _ hw)⟩
  have hx := C.1
  have hb := C.2.1
  have hC := And.intro C.1 C.2.1
  have hr := B.returns
  have hlk := B.notSynchronized
  have hS : va_S (mc_A 152 w) s.heap s.heap [] := va_S.rf
  have hl := lv_entry ([.ref (w.2.2.1 144), .int v1]) (n := 2) (Nat.le_of_ble_eq_true rfl)
  rw [lg_entry_eq]
  generalize (lg_sl ([.ref (w.2.2.1 144), .int v1]) ++ List.replicate (2 - (lg_sl ([.ref (w.2.2.1 144), .int v1])).length) Slot.unset).toArray = ls at hl ⊢
  have hl : lv_has ls 2 [(0, .ref (w.2.2.1 144)), (1, .int v1)] := hl
  unfold mi_X8_type at h
  refine lv_aload_n hx hb dX8_type_0 rfl (lv_at hl 0 rfl) ?_
  refine mf_X8_35 C K hP kf_144 dX8_type_1 ?_
  refine lv_iload_n hx hb dX8_type_4 rfl (lv_at hl 1 rfl) ?_
  obtain ⟨I1, r2, e3, h⟩ := mc_ob2_e h
  refine mg_Vz (As := [.int v1]) (rest := []) (ct_X6_append l (w := w) (I := I) (R := R) e3) C K hP hS hl.1 kf_147 (by decide) rfl rfl ml_X8_91 wy_X6_append wd_X6_append rfl rfl rfl ⟨Nat.le_of_ble_eq_true rfl, Nat.le_of_ble_eq_true rfl⟩ (Nat.le_of_ble_eq_true rfl) ⟨Nat.zero_le _, Nat.zero_le _⟩ dX8_type_5 (fun H locs hP z4 hS => ?_)
  refine lv_if_eq (tgt := 21) hx hb dX8_type_8 (by decide) (fun c5 => ?_) (fun c5 => ?_)
  · replace h := mc_it h c5
    refine lv_sipush (v := (-1003)) hx hb dX8_type_21 (by decide) ?_
    cases h
    exact mt_i hC hr hlk K hP hS dX8_type_24
  · replace h := mc_ie h c5
    refine lv_aload_n hx hb dX8_type_11 rfl (lv_at hl 0 rfl) ?_
    refine mf_X8_35 C K hP kf_144 dX8_type_12 ?_
    refine mf_X8_95 C K hP kf_147 dX8_type_15 ?_
    refine lv_goto (tgt := 24) hx hb dX8_type_18 (by decide) ?_
    cases h
    exact mt_i hC hr hlk K hP hS dX8_type_24
set_option maxHeartbeats 4000000 in
set_option maxRecDepth 100000 in
theorem ct_X8_clearText (l : Launch) {w : mc_w} {I : Nat → Nat → Int32} {R : Nat → Nat → Option Nat} {Iz : Nat → Nat → Int32} {rz : Int32} (h : mi_X8_clearText I = (Iz, rz)) : Met l yX8_clearText (Cond.code yX8_clearText cX8_clearText 2 (some .int) :: mc_big) ({ frames := 0, cells := 0, slots := 0, locals := 0 } : Room) (va_Pc [.ref (w.2.2.1 144)] (mc_B mc_k 152 w I R)) (mc_Q (some (.int rz)) (mc_B mc_k 152 w Iz R) (mc_A 152 w)) 0 0 (mc_A 152 w) := by
  refine Met.ofW (cc := cX8_clearText) (maxL := 2) (ret := (some .int)) (by decide) rfl ?_
  intro p e s m args below meth c s₁ B hml hv
  obtain ⟨rfl, hP, K⟩ := hv
  have hown : s.vm.findClass RX8 = some m.cls := findClass_of_methodNamed B.named
  have C : CallFix p m c cX8_clearText 2 s _ mc_big RX8 := ⟨B.exec, B.bytes, hml, hown, fun w hw => atoms_spec B.pre w (List.mem_cons_of_mem _ hw)⟩
  have hx := C.1
  have hb := C.2.1
  have hC := And.intro C.1 C.2.1
  have hr := B.returns
  have hlk := B.notSynchronized
  have hS : va_S (mc_A 152 w) s.heap s.heap [] := va_S.rf
  have hl := lv_entry ([.ref (w.2.2.1 144)]) (n := 2) (Nat.le_of_ble_eq_true rfl)
  rw [lg_entry_eq]
  generalize (lg_sl ([.ref (w.2.2.1 144)]) ++ List.replicate (2 - (lg_sl ([.ref (w.2.2.1 144)])).length) Slot.unset).toArray = ls at hl ⊢
  have hl : lv_has ls 2 [(0, .ref (w.2.2.1 144))] := hl
  unfold mi_X8_clearText at h
  refine lv_aload_n hx hb dX8_clearText_0 rfl (lv_at hl 0 rfl) ?_
  refine mf_X8_35 C K hP kf_144 dX8_clearText_1 ?_
  refine mf_X8_95 C K hP kf_147 dX8_clearText_4 ?_
  obtain ⟨x1, ex1, h⟩ := mc_bn_e h
  refine mv_top ex1 ?_
  refine lv_istore_n (i := 1) (lv' := [(1, .int x1), (0, .ref (w.2.2.1 144))]) hx hb dX8_clearText_7 rfl hl (by decide) rfl (fun ls hl => ?_)
  refine lv_aload_n hx hb dX8_clearText_8 rfl (lv_at hl 1 rfl) ?_
  refine mf_X8_35 C K hP kf_144 dX8_clearText_9 ?_
  refine lv_iconst (v := 0) hx hb dX8_clearText_12 (by decide) ?_
  obtain ⟨I2, eI2, h⟩ := mc_bn_e h
  refine mp_X8_95 C K hP hS kf_147 eI2 dX8_clearText_13 (fun H locs hP hS => ?_)
  refine lv_iload_n hx hb dX8_clearText_16 rfl (lv_at hl 0 rfl) ?_
  cases h
  exact mt_i hC hr hlk K hP hS dX8_clearText_17
set_option maxHeartbeats 4000000 in
set_option maxRecDepth 100000 in
theorem ct_X8_doThing (l : Launch) {w : mc_w} {I : Nat → Nat → Int32} {R : Nat → Nat → Option Nat} {F : Nat} {v1 : Int32} {v2 : Int32} {Iz : Nat → Nat → Int32} {Rz : Nat → Nat → Option Nat} {rz : Int32} (h : mi_X8_doThing F I R v1 v2 = some (Iz, Rz, rz)) : Met l yX8_doThing (Cond.code yX8_doThing cX8_doThing 3 (some .int) :: mc_big) ({ frames := 6, cells := 0, slots := 0, locals := 135 } : Room) (va_Pc [.ref (w.2.2.1 144), .int v1, .int v2] (mc_B mc_k 152 w I R)) (mc_Q (some (.int rz)) (mc_B mc_k 152 w Iz Rz) (mc_A 152 w)) 0 0 (mc_A 152 w) := by
  refine Met.ofW (cc := cX8_doThing) (maxL := 3) (ret := (some .int)) (by decide) rfl ?_
  intro p e s m args below meth c s₁ B hml hv
  obtain ⟨rfl, hP, K⟩ := hv
  have hown : s.vm.findClass RX8 = some m.cls := findClass_of_methodNamed B.named
  have C : CallFix p m c cX8_doThing 3 s _ mc_big RX8 := ⟨B.exec, B.bytes, hml, hown, fun w hw => atoms_spec B.pre w (List.mem_cons_of_mem _ hw)⟩
  have hx := C.1
  have hb := C.2.1
  have hC := And.intro C.1 C.2.1
  have hr := B.returns
  have hlk := B.notSynchronized
  have hS : va_S (mc_A 152 w) s.heap s.heap [] := va_S.rf
  have hl := lv_entry ([.ref (w.2.2.1 144), .int v1, .int v2]) (n := 3) (Nat.le_of_ble_eq_true rfl)
  rw [lg_entry_eq]
  generalize (lg_sl ([.ref (w.2.2.1 144), .int v1, .int v2]) ++ List.replicate (3 - (lg_sl ([.ref (w.2.2.1 144), .int v1, .int v2])).length) Slot.unset).toArray = ls at hl ⊢
  have hl : lv_has ls 3 [(0, .ref (w.2.2.1 144)), (1, .int v1), (2, .int v2)] := hl
  unfold mi_X8_doThing at h
  refine lv_iload_n hx hb dX8_doThing_0 rfl (lv_at hl 1 rfl) ?_
  by_cases c1 : v1 = 33
  · replace h := mc_it h c1
    refine lv_lookup (off := 104) (tgt := 105) hx hb dX8_doThing_1 (by decide) (by rw [c1]; decide) (by decide) ?_
    refine lv_aload_n hx hb dX8_doThing_105 rfl (lv_at hl 0 rfl) ?_
    refine mf_X8_10 C K hP kf_144 dX8_doThing_106 ?_
    obtain ⟨I2, r3, e4, h⟩ := mc_ob2_e h
    refine mg_Vi (As := []) (rest := []) (ct_X5_letGo l (w := w) (I := I) (R := R) kf_0 e4) C K hP hS hl.1 kf_0 (by decide) rfl rfl ml_X8_70 wy_X5_letGo wd_X5_letGo rfl rfl rfl ⟨Nat.le_of_ble_eq_true rfl, Nat.le_of_ble_eq_true rfl⟩ (Nat.le_of_ble_eq_true rfl) ⟨Nat.zero_le _, Nat.zero_le _⟩ dX8_doThing_109 (fun H locs hP hS => ?_)
    cases h
    exact mt_i hC hr hlk K hP hS dX8_doThing_112
  replace h := mc_ie h c1
  by_cases c5 : v1 = 43
  · replace h := mc_it h c5
    refine lv_lookup (off := 67) (tgt := 68) hx hb dX8_doThing_1 (by decide) (by rw [c5]; decide) (by decide) ?_
    refine lv_aload_n hx hb dX8_doThing_68 rfl (lv_at hl 0 rfl) ?_
    refine mf_X8_10 C K hP kf_144 dX8_doThing_69 ?_
    refine lv_iload_n hx hb dX8_doThing_72 rfl (lv_at hl 2 rfl) ?_
    obtain ⟨I6, r7, e8, h⟩ := mc_ob2_e h
    refine mg_Vi (As := [.int v2]) (rest := []) (ct_X5_payOut l (w := w) (I := I) (R := R) kf_0 e8) C K hP hS hl.1 kf_0 (by decide) rfl rfl ml_X8_50 wy_X5_payOut wd_X5_payOut rfl rfl rfl ⟨Nat.le_of_ble_eq_true rfl, Nat.le_of_ble_eq_true rfl⟩ (Nat.le_of_ble_eq_true rfl) ⟨Nat.zero_le _, Nat.zero_le _⟩ dX8_doThing_73 (fun H locs hP hS => ?_)
    cases h
    exact mt_i hC hr hlk K hP hS dX8_doThing_76
  replace h := mc_ie h c5
  by_cases c9 : v1 = 45
  · replace h := mc_it h c9
    refine lv_lookup (off := 76) (tgt := 77) hx hb dX8_doThing_1 (by decide) (by rw [c9]; decide) (by decide) ?_
    refine lv_aload_n hx hb dX8_doThing_77 rfl (lv_at hl 0 rfl) ?_
    refine mf_X8_10 C K hP kf_144 dX8_doThing_78 ?_
    refine lv_iload_n hx hb dX8_doThing_81 rfl (lv_at hl 2 rfl) ?_
    refine lv_ineg hx hb dX8_doThing_82 ?_
    obtain ⟨I10, r11, e12, h⟩ := mc_ob2_e h
    refine mg_Vi (As := [.int (-v2)]) (rest := []) (ct_X5_payOut l (w := w) (I := I) (R := R) kf_0 e12) C K hP hS hl.1 kf_0 (by decide) rfl rfl ml_X8_50 wy_X5_payOut wd_X5_payOut rfl rfl rfl ⟨Nat.le_of_ble_eq_true rfl, Nat.le_of_ble_eq_true rfl⟩ (Nat.le_of_ble_eq_true rfl) ⟨Nat.zero_le _, Nat.zero_le _⟩ dX8_doThing_83 (fun H locs hP hS => ?_)
    cases h
    exact mt_i hC hr hlk K hP hS dX8_doThing_86
  replace h := mc_ie h c9
  by_cases c13 : v1 = 46
  · replace h := mc_it h c13
    refine lv_lookup (off := 121) (tgt := 122) hx hb dX8_doThing_1 (by decide) (by rw [c13]; decide) (by decide) ?_
    refine lv_aload_n hx hb dX8_doThing_122 rfl (lv_at hl 0 rfl) ?_
    refine mf_X8_10 C K hP kf_144 dX8_doThing_123 ?_
    refine lv_iload_n hx hb dX8_doThing_126 rfl (lv_at hl 2 rfl) ?_
    obtain ⟨I14, r15, e16, h⟩ := mc_ob2_e h
    refine mg_Vi (As := [.int v2]) (rest := []) (ct_X5_letPass l (w := w) (I := I) (R := R) kf_0 e16) C K hP hS hl.1 kf_0 (by decide) rfl rfl ml_X8_74 wy_X5_letPass wd_X5_letPass rfl rfl rfl ⟨Nat.le_of_ble_eq_true rfl, Nat.le_of_ble_eq_true rfl⟩ (Nat.le_of_ble_eq_true rfl) ⟨Nat.zero_le _, Nat.zero_le _⟩ dX8_doThing_127 (fun H locs hP hS => ?_)
    cases h
    exact mt_i hC hr hlk K hP hS dX8_doThing_130
  replace h := mc_ie h c13
  by_cases c17 : v1 = 47
  · replace h := mc_it h c17
    refine lv_lookup (off := 112) (tgt := 113) hx hb dX8_doThing_1 (by decide) (by rw [c17]; decide) (by decide) ?_
    refine lv_aload_n hx hb dX8_doThing_113 rfl (lv_at hl 0 rfl) ?_
    refine mf_X8_10 C K hP kf_144 dX8_doThing_114 ?_
    refine lv_iload_n hx hb dX8_doThing_117 rfl (lv_at hl 2 rfl) ?_
    obtain ⟨I18, r19, e20, h⟩ := mc_bn2_e h
    refine mg_Vi (As := [.int v2]) (rest := []) (ct_X5_changeSlope l (w := w) (I := I) (R := R) kf_0 e20) C K hP hS hl.1 kf_0 (by decide) rfl rfl ml_X8_57 wy_X5_changeSlope wd_X5_changeSlope rfl rfl rfl ⟨Nat.le_of_ble_eq_true rfl, Nat.le_of_ble_eq_true rfl⟩ (Nat.le_of_ble_eq_true rfl) ⟨Nat.zero_le _, Nat.zero_le _⟩ dX8_doThing_118 (fun H locs hP hS => ?_)
    cases h
    exact mt_i hC hr hlk K hP hS dX8_doThing_121
  replace h := mc_ie h c17
  by_cases c21 : v1 = 98
  · replace h := mc_it h c21
    refine lv_lookup (off := 86) (tgt := 87) hx hb dX8_doThing_1 (by decide) (by rw [c21]; decide) (by decide) ?_
    refine lv_aload_n hx hb dX8_doThing_87 rfl (lv_at hl 0 rfl) ?_
    refine mf_X8_10 C K hP kf_144 dX8_doThing_88 ?_
    refine lv_iconst (v := 0) hx hb dX8_doThing_91 (by decide) ?_
    obtain ⟨I22, R23, r24, e25, h⟩ := mc_ob3_e h
    refine mg_Vi (As := [.int 0]) (rest := []) (ct_X5_addBottle l (w := w) (I := I) (R := R) kf_0 e25) C K hP hS hl.1 kf_0 (by decide) rfl rfl ml_X8_64 wy_X5_addBottle wd_X5_addBottle rfl rfl rfl ⟨Nat.le_of_ble_eq_true rfl, Nat.le_of_ble_eq_true rfl⟩ (Nat.le_of_ble_eq_true rfl) ⟨Nat.zero_le _, Nat.zero_le _⟩ dX8_doThing_92 (fun H locs hP hS => ?_)
    cases h
    exact mt_i hC hr hlk K hP hS dX8_doThing_95
  replace h := mc_ie h c21
  by_cases c26 : v1 = 109
  · replace h := mc_it h c26
    refine lv_lookup (off := 95) (tgt := 96) hx hb dX8_doThing_1 (by decide) (by rw [c26]; decide) (by decide) ?_
    refine lv_aload_n hx hb dX8_doThing_96 rfl (lv_at hl 0 rfl) ?_
    refine mf_X8_10 C K hP kf_144 dX8_doThing_97 ?_
    refine lv_iconst (v := 1) hx hb dX8_doThing_100 (by decide) ?_
    obtain ⟨I27, R28, r29, e30, h⟩ := mc_ob3_e h
    refine mg_Vi (As := [.int 1]) (rest := []) (ct_X5_addBottle l (w := w) (I := I) (R := R) kf_0 e30) C K hP hS hl.1 kf_0 (by decide) rfl rfl ml_X8_64 wy_X5_addBottle wd_X5_addBottle rfl rfl rfl ⟨Nat.le_of_ble_eq_true rfl, Nat.le_of_ble_eq_true rfl⟩ (Nat.le_of_ble_eq_true rfl) ⟨Nat.zero_le _, Nat.zero_le _⟩ dX8_doThing_101 (fun H locs hP hS => ?_)
    cases h
    exact mt_i hC hr hlk K hP hS dX8_doThing_104
  replace h := mc_ie h c26
  refine lv_lookup (off := 130) (tgt := 131) hx hb dX8_doThing_1 (by decide) (mc_lk (l := [(33, 104), (43, 67), (45, 76), (46, 121), (47, 112), (98, 86), (109, 95)]) (by intro q hq; simp only [List.mem_cons, List.not_mem_nil, or_false] at hq; rcases hq with rfl | rfl | rfl | rfl | rfl | rfl | rfl <;> first | exact mc_ne c1 (by decide) | exact mc_ne c5 (by decide) | exact mc_ne c9 (by decide) | exact mc_ne c13 (by decide) | exact mc_ne c17 (by decide) | exact mc_ne c21 (by decide) | exact mc_ne c26 (by decide))) (by decide) ?_
  refine lv_sipush (v := (-1002)) hx hb dX8_doThing_131 (by decide) ?_
  cases h
  exact mt_i hC hr hlk K hP hS dX8_doThing_134
set_option maxHeartbeats 4000000 in
set_option maxRecDepth 100000 in
theorem ct_X8_rememberStop (l : Launch) {w : mc_w} {I : Nat → Nat → Int32} {R : Nat → Nat → Option Nat} {v1 : Int32} {v2 : Int32} {Iz : Nat → Nat → Int32} (h : mi_X8_rememberStop I v1 v2 = Iz) : Met l yX8_rememberStop (Cond.code yX8_rememberStop cX8_rememberStop 3 none :: mc_big) ({ frames := 0, cells := 0, slots := 0, locals := 0 } : Room) (va_Pc [.ref (w.2.2.1 144), .int v1, .int v2] (mc_B mc_k 152 w I R)) (mc_Q none (mc_B mc_k 152 w Iz R) (mc_A 152 w)) 0 0 (mc_A 152 w) := by
  refine Met.ofW (cc := cX8_rememberStop) (maxL := 3) (ret := none) (by decide) rfl ?_
  intro p e s m args below meth c s₁ B hml hv
  obtain ⟨rfl, hP, K⟩ := hv
  have hown : s.vm.findClass RX8 = some m.cls := findClass_of_methodNamed B.named
  have C : CallFix p m c cX8_rememberStop 3 s _ mc_big RX8 := ⟨B.exec, B.bytes, hml, hown, fun w hw => atoms_spec B.pre w (List.mem_cons_of_mem _ hw)⟩
  have hx := C.1
  have hb := C.2.1
  have hC := And.intro C.1 C.2.1
  have hr := B.returns
  have hlk := B.notSynchronized
  have hS : va_S (mc_A 152 w) s.heap s.heap [] := va_S.rf
  have hl := lv_entry ([.ref (w.2.2.1 144), .int v1, .int v2]) (n := 3) (Nat.le_of_ble_eq_true rfl)
  rw [lg_entry_eq]
  generalize (lg_sl ([.ref (w.2.2.1 144), .int v1, .int v2]) ++ List.replicate (3 - (lg_sl ([.ref (w.2.2.1 144), .int v1, .int v2])).length) Slot.unset).toArray = ls at hl ⊢
  have hl : lv_has ls 3 [(0, .ref (w.2.2.1 144)), (1, .int v1), (2, .int v2)] := hl
  unfold mi_X8_rememberStop at h
  refine lv_aload_n hx hb dX8_rememberStop_0 rfl (lv_at hl 0 rfl) ?_
  refine lv_iconst (v := 1) hx hb dX8_rememberStop_1 (by decide) ?_
  obtain ⟨I1, eI1, h⟩ := mc_bn_e h
  refine mp_X8_128 C K hP hS kf_144 eI1 ⟨by decide, by decide⟩ dX8_rememberStop_2 (fun H locs hP hS => ?_)
  refine lv_aload_n hx hb dX8_rememberStop_5 rfl (lv_at hl 0 rfl) ?_
  refine lv_iload_n hx hb dX8_rememberStop_6 rfl (lv_at hl 1 rfl) ?_
  obtain ⟨I2, eI2, h⟩ := mc_bn_e h
  refine mp_X8_132 C K hP hS kf_144 eI2 dX8_rememberStop_7 (fun H locs hP hS => ?_)
  refine lv_aload_n hx hb dX8_rememberStop_10 rfl (lv_at hl 0 rfl) ?_
  refine lv_iload_n hx hb dX8_rememberStop_11 rfl (lv_at hl 2 rfl) ?_
  obtain ⟨I3, eI3, h⟩ := mc_bn_e h
  refine mp_X8_135 C K hP hS kf_144 eI3 dX8_rememberStop_12 (fun H locs hP hS => ?_)
  cases h
  exact mt_v hC hr hlk K hP hS dX8_rememberStop_15
set_option maxHeartbeats 4000000 in
set_option maxRecDepth 100000 in
theorem bk_X8_perform_B36 {p : Program} {l : Launch} {e : Env} {s : State} {m : MethodId} {args : Array Value} {below : List Frame} {meth : Method} {c : Code} (C : CallFix p m c cX8_perform 4 s args mc_big RX8) (hr : meth.sig.returnType = (some .int)) (hlk : meth.locks = false) {w : mc_w} (K : mc_K mc_k 152 w s) {F : Nat} {Iz : Nat → Nat → Int32} {Rz : Nat → Nat → Option Nat} {rz : Int32} {k36 : (Nat → Nat → Int32) → (Nat → Nat → Option Nat) → Int32 → (Option ((Nat → Nat → Int32) × (Nat → Nat → Option Nat) × Int32))} (hk36 : ∀ (I : Nat → Nat → Int32) (R : Nat → Nat → Option Nat) (v2 : Int32), k36 I R v2 = some (Iz, Rz, rz) → ∀ {H : Heap} {locs : List Loc} {ls : Array Slot}, mc_P mc_k 152 w I R H → va_S (mc_A 152 w) s.heap H locs → lv_has ls 4 [(0, .ref (w.2.2.1 144)), (2, .int v2)] → W p l e ({ frames := 7, cells := 0, slots := 0, locals := 157 } : Room) s m args below meth c H locs 0 0 (MQ below (mc_Q (some (.int rz)) (mc_B mc_k 152 w Iz Rz) (mc_A 152 w)) args s 0 0 (mc_A 152 w)) (F0 m 36 ls [])) : ∀ (I : Nat → Nat → Int32) (R : Nat → Nat → Option Nat) (v2 : Int32), mi_X8_perform_B36 k36 F I R v2 = some (Iz, Rz, rz) → ∀ {H : Heap} {locs : List Loc} {ls : Array Slot}, mc_P mc_k 152 w I R H → va_S (mc_A 152 w) s.heap H locs → lv_has ls 4 [(0, .ref (w.2.2.1 144)), (2, .int v2)] → W p l e ({ frames := 7, cells := 0, slots := 0, locals := 157 } : Room) s m args below meth c H locs 0 0 (MQ below (mc_Q (some (.int rz)) (mc_B mc_k 152 w Iz Rz) (mc_A 152 w)) args s 0 0 (mc_A 152 w)) (F0 m 36 ls []) := by
  intro I R v2 h  H locs ls hP hS hl
  have hx := C.1
  have hb := C.2.1
  have hC := And.intro C.1 C.2.1
  unfold mi_X8_perform_B36 at h
  refine lv_iload_n hx hb dX8_perform_36 rfl (lv_at hl 1 rfl) ?_
  refine lv_aload_n hx hb dX8_perform_37 rfl (lv_at hl 0 rfl) ?_
  refine mf_X8_42 C K hP kf_144 dX8_perform_38 ?_
  refine mf_X8_103 C K hP kf_149 dX8_perform_41 ?_
  refine lv_icmp_ge (tgt := 109) hx hb dX8_perform_44 (by decide) (fun c7 => ?_) (fun c7 => ?_)
  · replace h := mc_it h c7
    refine lv_aload_n hx hb dX8_perform_109 rfl (lv_at hl 0 rfl) ?_
    refine mf_X8_28 C K hP kf_144 dX8_perform_110 ?_
    refine lv_aload_n hx hb dX8_perform_113 rfl (lv_at hl 0 rfl) ?_
    refine mf_X8_16 C K hP kf_144 dX8_perform_114 ?_
    obtain ⟨I8, R9, e10, h⟩ := mc_ob2_e h
    refine mg_Vv (As := [.ref (w.2.2.1 18)]) (rest := []) (ct_X3_add l (w := w) (I := I) (R := R) kf_18 e10) C K hP hS hl.1 kf_145 (by decide) rfl rfl ml_X8_125 wy_X3_add wd_X3_add rfl rfl rfl ⟨Nat.le_of_ble_eq_true rfl, Nat.le_of_ble_eq_true rfl⟩ (Nat.le_of_ble_eq_true rfl) ⟨Nat.zero_le _, Nat.zero_le _⟩ dX8_perform_117 (fun H locs hP hS => ?_)
    refine lv_aload_n hx hb dX8_perform_120 rfl (lv_at hl 0 rfl) ?_
    refine mf_X8_42 C K hP kf_144 dX8_perform_121 ?_
    refine mf_X8_103 C K hP kf_149 dX8_perform_124 ?_
    cases h
    exact mt_i hC hr hlk K hP hS dX8_perform_127
  · replace h := mc_ie h c7
    refine lv_aload_n hx hb dX8_perform_47 rfl (lv_at hl 0 rfl) ?_
    refine lv_aload_n hx hb dX8_perform_48 rfl (lv_at hl 0 rfl) ?_
    refine mf_X8_42 C K hP kf_144 dX8_perform_49 ?_
    refine lv_iload_n hx hb dX8_perform_52 rfl (lv_at hl 1 rfl) ?_
    obtain ⟨r11, e12, h⟩ := mc_ob_e h
    refine mg_Vi (As := [.int v2]) (rest := [.ref (w.2.2.1 144)]) (ct_X2_kindAt l (w := w) (I := I) (R := R) e12) C K hP hS hl.1 kf_149 (by decide) rfl rfl ml_X8_106 wy_X2_kindAt wd_X2_kindAt rfl rfl rfl ⟨Nat.le_of_ble_eq_true rfl, Nat.le_of_ble_eq_true rfl⟩ (Nat.le_of_ble_eq_true rfl) ⟨Nat.zero_le _, Nat.zero_le _⟩ dX8_perform_53 (fun H locs hP hS => ?_)
    refine lv_aload_n hx hb dX8_perform_56 rfl (lv_at hl 0 rfl) ?_
    refine mf_X8_42 C K hP kf_144 dX8_perform_57 ?_
    refine lv_iload_n hx hb dX8_perform_60 rfl (lv_at hl 1 rfl) ?_
    obtain ⟨r13, e14, h⟩ := mc_ob_e h
    refine mg_Vi (As := [.int v2]) (rest := [.int r11, .ref (w.2.2.1 144)]) (ct_X2_numberAt l (w := w) (I := I) (R := R) e14) C K hP hS hl.1 kf_149 (by decide) rfl rfl ml_X8_110 wy_X2_numberAt wd_X2_numberAt rfl rfl rfl ⟨Nat.le_of_ble_eq_true rfl, Nat.le_of_ble_eq_true rfl⟩ (Nat.le_of_ble_eq_true rfl) ⟨Nat.zero_le _, Nat.zero_le _⟩ dX8_perform_61 (fun H locs hP hS => ?_)
    obtain ⟨I15, R16, r17, e18, h⟩ := mc_ob3_e h
    refine mg_Vi (As := [.int r11, .int r13]) (rest := []) (ct_X8_doThing l (w := w) (I := I) (R := R) e18) C K hP hS hl.1 kf_144 (by decide) rfl rfl ml_X8_113 wy_X8_doThing wd_X8_doThing rfl rfl rfl ⟨Nat.le_of_ble_eq_true rfl, Nat.le_of_ble_eq_true rfl⟩ (Nat.le_of_ble_eq_true rfl) ⟨Nat.zero_le _, Nat.zero_le _⟩ dX8_perform_64 (fun H locs hP hS => ?_)
    refine lv_istore_n (i := 3) (lv' := [(3, .int r17), (0, .ref (w.2.2.1 144)), (2, .int v2)]) hx hb dX8_perform_67 rfl hl (by decide) rfl (fun ls hl => ?_)
    refine lv_iload_n hx hb dX8_perform_68 rfl (lv_at hl 0 rfl) ?_
    refine mg_Sz (As := [.int r17]) (rest := []) (ct_X8_isDone l (w := w) (I := I15) (R := R16) rfl) C K hP hS hl.1 ml_X8_117 wy_X8_isDone wd_X8_isDone rfl rfl rfl ⟨Nat.le_of_ble_eq_true rfl, Nat.le_of_ble_eq_true rfl⟩ (Nat.le_of_ble_eq_true rfl) ⟨Nat.zero_le _, Nat.zero_le _⟩ dX8_perform_69 (fun H locs hP z20 hS => ?_)
    refine lv_if_ne (tgt := 103) hx hb dX8_perform_72 (by decide) (fun c21 => ?_) (fun c21 => ?_)
    · replace h := mc_ie h c21
      obtain ⟨x22, ex22, h⟩ := mc_bn_e h
      refine lv_iinc (v := x22) (lv' := [(2, .int x22), (3, .int r17), (0, .ref (w.2.2.1 144))]) hx hb dX8_perform_103 hl (k := 2) rfl (by rw [ex22]; rfl) (by decide) rfl (fun ls hl => ?_)
      refine lv_goto (tgt := 36) hx hb dX8_perform_106 (by decide) ?_
      exact hk36 I15 R16 x22 h  hP hS (lv_sub hl [2, 0] rfl)
    · replace h := mc_it h c21
      refine lv_iload_n hx hb dX8_perform_75 rfl (lv_at hl 0 rfl) ?_
      refine lv_sipush (v := (-1005)) hx hb dX8_perform_76 (by decide) ?_
      refine lv_icmp_eq (tgt := 103) hx hb dX8_perform_79 (by decide) (fun c23 => ?_) (fun c23 => ?_)
      · replace h := mc_it h c23
        obtain ⟨x24, ex24, h⟩ := mc_bn_e h
        refine lv_iinc (v := x24) (lv' := [(2, .int x24), (3, .int r17), (0, .ref (w.2.2.1 144))]) hx hb dX8_perform_103 hl (k := 2) rfl (by rw [ex24]; rfl) (by decide) rfl (fun ls hl => ?_)
        refine lv_goto (tgt := 36) hx hb dX8_perform_106 (by decide) ?_
        exact hk36 I15 R16 x24 h  hP hS (lv_sub hl [2, 0] rfl)
      · replace h := mc_ie h c23
        refine lv_aload_n hx hb dX8_perform_82 rfl (lv_at hl 1 rfl) ?_
        refine mf_X8_10 C K hP kf_144 dX8_perform_83 ?_
        refine lv_aload_n hx hb dX8_perform_86 rfl (lv_at hl 1 rfl) ?_
        refine mf_X8_16 C K hP kf_144 dX8_perform_87 ?_
        obtain ⟨I25, e26, h⟩ := mc_ob_e h
        refine mg_Vv (As := [.ref (w.2.2.1 18)]) (rest := []) (ct_X5_copyFrom l (w := w) (I := I15) (R := R16) kf_0 kf_18 e26) C K hP hS hl.1 kf_0 (by decide) rfl rfl ml_X8_46 wy_X5_copyFrom wd_X5_copyFrom rfl rfl rfl ⟨Nat.le_of_ble_eq_true rfl, Nat.le_of_ble_eq_true rfl⟩ (Nat.le_of_ble_eq_true rfl) ⟨Nat.zero_le _, Nat.zero_le _⟩ dX8_perform_90 (fun H locs hP hS => ?_)
        refine lv_aload_n hx hb dX8_perform_93 rfl (lv_at hl 1 rfl) ?_
        refine lv_iload_n hx hb dX8_perform_94 rfl (lv_at hl 2 rfl) ?_
        refine lv_iload_n hx hb dX8_perform_95 rfl (lv_at hl 0 rfl) ?_
        obtain ⟨I27, e28, h⟩ := mc_bn_e h
        refine mg_Vv (As := [.int v2, .int r17]) (rest := []) (ct_X8_rememberStop l (w := w) (I := I25) (R := R16) e28.symm) C K hP hS hl.1 kf_144 (by decide) rfl rfl ml_X8_121 wy_X8_rememberStop wd_X8_rememberStop rfl rfl rfl ⟨Nat.le_of_ble_eq_true rfl, Nat.le_of_ble_eq_true rfl⟩ (Nat.le_of_ble_eq_true rfl) ⟨Nat.zero_le _, Nat.zero_le _⟩ dX8_perform_96 (fun H locs hP hS => ?_)
        refine lv_sipush (v := (-1004)) hx hb dX8_perform_99 (by decide) ?_
        cases h
        exact mt_i hC hr hlk K hP hS dX8_perform_102
theorem bk_X8_perform_L36 {p : Program} {l : Launch} {e : Env} {s : State} {m : MethodId} {args : Array Value} {below : List Frame} {meth : Method} {c : Code} (C : CallFix p m c cX8_perform 4 s args mc_big RX8) (hr : meth.sig.returnType = (some .int)) (hlk : meth.locks = false) {w : mc_w} (K : mc_K mc_k 152 w s) {F : Nat} {Iz : Nat → Nat → Int32} {Rz : Nat → Nat → Option Nat} {rz : Int32} : ∀ n : Nat, ∀ (I : Nat → Nat → Int32) (R : Nat → Nat → Option Nat) (v2 : Int32), mi_X8_perform_L36 F n I R v2 = some (Iz, Rz, rz) → ∀ {H : Heap} {locs : List Loc} {ls : Array Slot}, mc_P mc_k 152 w I R H → va_S (mc_A 152 w) s.heap H locs → lv_has ls 4 [(0, .ref (w.2.2.1 144)), (2, .int v2)] → W p l e ({ frames := 7, cells := 0, slots := 0, locals := 157 } : Room) s m args below meth c H locs 0 0 (MQ below (mc_Q (some (.int rz)) (mc_B mc_k 152 w Iz Rz) (mc_A 152 w)) args s 0 0 (mc_A 152 w)) (F0 m 36 ls []) := by
  intro n
  induction n with
  | zero =>
    intro I R v2 h
    cases h
  | succ n ih =>
    intro I R v2 h
    exact bk_X8_perform_B36 C hr hlk K  ih I R v2 h
set_option maxHeartbeats 4000000 in
set_option maxRecDepth 100000 in
theorem ct_X8_perform (l : Launch) {w : mc_w} {I : Nat → Nat → Int32} {R : Nat → Nat → Option Nat} {F : Nat} {Iz : Nat → Nat → Int32} {Rz : Nat → Nat → Option Nat} {rz : Int32} (h : mi_X8_perform F I R = some (Iz, Rz, rz)) : Met l yX8_perform (Cond.code yX8_perform cX8_perform 4 (some .int) :: mc_big) ({ frames := 7, cells := 0, slots := 0, locals := 157 } : Room) (va_Pc [.ref (w.2.2.1 144)] (mc_B mc_k 152 w I R)) (mc_Q (some (.int rz)) (mc_B mc_k 152 w Iz Rz) (mc_A 152 w)) 0 0 (mc_A 152 w) := by
  refine Met.ofW (cc := cX8_perform) (maxL := 4) (ret := (some .int)) (by decide) rfl ?_
  intro p e s m args below meth c s₁ B hml hv
  obtain ⟨rfl, hP, K⟩ := hv
  have hown : s.vm.findClass RX8 = some m.cls := findClass_of_methodNamed B.named
  have C : CallFix p m c cX8_perform 4 s _ mc_big RX8 := ⟨B.exec, B.bytes, hml, hown, fun w hw => atoms_spec B.pre w (List.mem_cons_of_mem _ hw)⟩
  have hx := C.1
  have hb := C.2.1
  have hC := And.intro C.1 C.2.1
  have hr := B.returns
  have hlk := B.notSynchronized
  have hS : va_S (mc_A 152 w) s.heap s.heap [] := va_S.rf
  have hl := lv_entry ([.ref (w.2.2.1 144)]) (n := 4) (Nat.le_of_ble_eq_true rfl)
  rw [lg_entry_eq]
  generalize (lg_sl ([.ref (w.2.2.1 144)]) ++ List.replicate (4 - (lg_sl ([.ref (w.2.2.1 144)])).length) Slot.unset).toArray = ls at hl ⊢
  have hl : lv_has ls 4 [(0, .ref (w.2.2.1 144))] := hl
  unfold mi_X8_perform at h
  refine lv_aload_n hx hb dX8_perform_0 rfl (lv_at hl 0 rfl) ?_
  refine mf_X8_42 C K hP kf_144 dX8_perform_1 ?_
  refine lv_aload_n hx hb dX8_perform_4 rfl (lv_at hl 0 rfl) ?_
  refine mf_X8_35 C K hP kf_144 dX8_perform_5 ?_
  obtain ⟨I1, r2, e3, h⟩ := mc_ob2_e h
  refine mg_Vi (As := [.ref (w.2.2.1 147)]) (rest := []) (ct_X2_read l (w := w) (I := I) (R := R) e3) C K hP hS hl.1 kf_149 (by decide) rfl rfl ml_X8_99 wy_X2_read wd_X2_read rfl rfl rfl ⟨Nat.le_of_ble_eq_true rfl, Nat.le_of_ble_eq_true rfl⟩ (Nat.le_of_ble_eq_true rfl) ⟨Nat.zero_le _, Nat.zero_le _⟩ dX8_perform_8 (fun H locs hP hS => ?_)
  refine lv_istore_n (i := 1) (lv' := [(1, .int r2), (0, .ref (w.2.2.1 144))]) hx hb dX8_perform_11 rfl hl (by decide) rfl (fun ls hl => ?_)
  refine lv_iload_n hx hb dX8_perform_12 rfl (lv_at hl 0 rfl) ?_
  refine lv_iconst (v := (-1)) hx hb dX8_perform_13 (by decide) ?_
  refine lv_icmp_eq (tgt := 23) hx hb dX8_perform_14 (by decide) (fun c4 => ?_) (fun c4 => ?_)
  · replace h := mc_it h c4
    refine lv_aload_n hx hb dX8_perform_23 rfl (lv_at hl 1 rfl) ?_
    refine mf_X8_16 C K hP kf_144 dX8_perform_24 ?_
    refine lv_aload_n hx hb dX8_perform_27 rfl (lv_at hl 1 rfl) ?_
    refine mf_X8_10 C K hP kf_144 dX8_perform_28 ?_
    obtain ⟨I5, e6, h⟩ := mc_ob_e h
    refine mg_Vv (As := [.ref (w.2.2.1 0)]) (rest := []) (ct_X5_copyFrom l (w := w) (I := I1) (R := R) kf_18 kf_0 e6) C K hP hS hl.1 kf_18 (by decide) rfl rfl ml_X8_46 wy_X5_copyFrom wd_X5_copyFrom rfl rfl rfl ⟨Nat.le_of_ble_eq_true rfl, Nat.le_of_ble_eq_true rfl⟩ (Nat.le_of_ble_eq_true rfl) ⟨Nat.zero_le _, Nat.zero_le _⟩ dX8_perform_31 (fun H locs hP hS => ?_)
    refine lv_iconst (v := 0) hx hb dX8_perform_34 (by decide) ?_
    refine lv_istore_n (i := 2) (lv' := [(2, .int 0), (1, .int r2), (0, .ref (w.2.2.1 144))]) hx hb dX8_perform_35 rfl hl (by decide) rfl (fun ls hl => ?_)
    exact bk_X8_perform_L36 C hr hlk K  F I5 R 0 h  hP hS (lv_sub hl [2, 0] rfl)
  · replace h := mc_ie h c4
    refine lv_sipush (v := (-1100)) hx hb dX8_perform_17 (by decide) ?_
    refine lv_iload_n hx hb dX8_perform_20 rfl (lv_at hl 0 rfl) ?_
    refine lv_isub hx hb dX8_perform_21 ?_
    cases h
    exact mt_i hC hr hlk K hP hS dX8_perform_22
set_option maxHeartbeats 4000000 in
set_option maxRecDepth 100000 in
theorem ct_X8_stopped (l : Launch) {w : mc_w} {I : Nat → Nat → Int32} {R : Nat → Nat → Option Nat} {v1 : Int32} {rz : Int32} (h : mi_X8_stopped I v1 = rz) : Met l yX8_stopped (Cond.code yX8_stopped cX8_stopped 2 (some .int) :: mc_big) ({ frames := 0, cells := 0, slots := 0, locals := 0 } : Room) (va_Pc [.ref (w.2.2.1 144), .int v1] (mc_B mc_k 152 w I R)) (mc_Q (some (.int rz)) (mc_B mc_k 152 w I R) (mc_A 152 w)) 0 0 (mc_A 152 w) := by
  refine Met.ofW (cc := cX8_stopped) (maxL := 2) (ret := (some .int)) (by decide) rfl ?_
  intro p e s m args below meth c s₁ B hml hv
  obtain ⟨rfl, hP, K⟩ := hv
  have hown : s.vm.findClass RX8 = some m.cls := findClass_of_methodNamed B.named
  have C : CallFix p m c cX8_stopped 2 s _ mc_big RX8 := ⟨B.exec, B.bytes, hml, hown, fun w hw => atoms_spec B.pre w (List.mem_cons_of_mem _ hw)⟩
  have hx := C.1
  have hb := C.2.1
  have hC := And.intro C.1 C.2.1
  have hr := B.returns
  have hlk := B.notSynchronized
  have hS : va_S (mc_A 152 w) s.heap s.heap [] := va_S.rf
  have hl := lv_entry ([.ref (w.2.2.1 144), .int v1]) (n := 2) (Nat.le_of_ble_eq_true rfl)
  rw [lg_entry_eq]
  generalize (lg_sl ([.ref (w.2.2.1 144), .int v1]) ++ List.replicate (2 - (lg_sl ([.ref (w.2.2.1 144), .int v1])).length) Slot.unset).toArray = ls at hl ⊢
  have hl : lv_has ls 2 [(0, .ref (w.2.2.1 144)), (1, .int v1)] := hl
  unfold mi_X8_stopped at h
  refine lv_iload_n hx hb dX8_stopped_0 rfl (lv_at hl 1 rfl) ?_
  refine lv_if_lt (tgt := 9) hx hb dX8_stopped_1 (by decide) (fun c1 => ?_) (fun c1 => ?_)
  · replace h := mc_it h c1
    refine lv_sipush (v := (-1002)) hx hb dX8_stopped_9 (by decide) ?_
    cases h
    exact mt_i hC hr hlk K hP hS dX8_stopped_12
  · replace h := mc_ie h c1
    refine lv_iload_n hx hb dX8_stopped_4 rfl (lv_at hl 1 rfl) ?_
    refine lv_iconst (v := 1) hx hb dX8_stopped_5 (by decide) ?_
    refine lv_icmp_le (tgt := 13) hx hb dX8_stopped_6 (by decide) (fun c2 => ?_) (fun c2 => ?_)
    · replace h := mc_it h c2
      refine lv_aload_n hx hb dX8_stopped_13 rfl (lv_at hl 0 rfl) ?_
      refine mf_X8_128 C K hP kf_144 dX8_stopped_14 ?_
      refine lv_if_ne (tgt := 24) hx hb dX8_stopped_17 (by decide) (fun c3 => ?_) (fun c3 => ?_)
      · replace h := mc_ie h c3
        refine lv_iload_n hx hb dX8_stopped_24 rfl (lv_at hl 1 rfl) ?_
        refine lv_if_ne (tgt := 35) hx hb dX8_stopped_25 (by decide) (fun c4 => ?_) (fun c4 => ?_)
        · replace h := mc_ie h c4
          refine lv_aload_n hx hb dX8_stopped_35 rfl (lv_at hl 0 rfl) ?_
          refine mf_X8_135 C K hP kf_144 dX8_stopped_36 ?_
          cases h
          exact mt_i hC hr hlk K hP hS dX8_stopped_39
        · replace h := mc_it h c4
          refine lv_aload_n hx hb dX8_stopped_28 rfl (lv_at hl 0 rfl) ?_
          refine mf_X8_132 C K hP kf_144 dX8_stopped_29 ?_
          refine lv_goto (tgt := 39) hx hb dX8_stopped_32 (by decide) ?_
          cases h
          exact mt_i hC hr hlk K hP hS dX8_stopped_39
      · replace h := mc_it h c3
        refine lv_sipush (v := (-1005)) hx hb dX8_stopped_20 (by decide) ?_
        cases h
        exact mt_i hC hr hlk K hP hS dX8_stopped_23
    · replace h := mc_ie h c2
      refine lv_sipush (v := (-1002)) hx hb dX8_stopped_9 (by decide) ?_
      cases h
      exact mt_i hC hr hlk K hP hS dX8_stopped_12
set_option maxHeartbeats 4000000 in
set_option maxRecDepth 100000 in
theorem ct_X8_undo (l : Launch) {w : mc_w} {I : Nat → Nat → Int32} {R : Nat → Nat → Option Nat} {F : Nat} {Iz : Nat → Nat → Int32} {rz : Int32} (h : mi_X8_undo F I R = some (Iz, rz)) : Met l yX8_undo (Cond.code yX8_undo cX8_undo 1 (some .int) :: mc_big) ({ frames := 3, cells := 0, slots := 0, locals := 69 } : Room) (va_Pc [.ref (w.2.2.1 144)] (mc_B mc_k 152 w I R)) (mc_Q (some (.int rz)) (mc_B mc_k 152 w Iz R) (mc_A 152 w)) 0 0 (mc_A 152 w) := by
  refine Met.ofW (cc := cX8_undo) (maxL := 1) (ret := (some .int)) (by decide) rfl ?_
  intro p e s m args below meth c s₁ B hml hv
  obtain ⟨rfl, hP, K⟩ := hv
  have hown : s.vm.findClass RX8 = some m.cls := findClass_of_methodNamed B.named
  have C : CallFix p m c cX8_undo 1 s _ mc_big RX8 := ⟨B.exec, B.bytes, hml, hown, fun w hw => atoms_spec B.pre w (List.mem_cons_of_mem _ hw)⟩
  have hx := C.1
  have hb := C.2.1
  have hC := And.intro C.1 C.2.1
  have hr := B.returns
  have hlk := B.notSynchronized
  have hS : va_S (mc_A 152 w) s.heap s.heap [] := va_S.rf
  have hl := lv_entry ([.ref (w.2.2.1 144)]) (n := 1) (Nat.le_of_ble_eq_true rfl)
  rw [lg_entry_eq]
  generalize (lg_sl ([.ref (w.2.2.1 144)]) ++ List.replicate (1 - (lg_sl ([.ref (w.2.2.1 144)])).length) Slot.unset).toArray = ls at hl ⊢
  have hl : lv_has ls 1 [(0, .ref (w.2.2.1 144))] := hl
  unfold mi_X8_undo at h
  refine lv_aload_n hx hb dX8_undo_0 rfl (lv_at hl 0 rfl) ?_
  refine mf_X8_28 C K hP kf_144 dX8_undo_1 ?_
  refine lv_aload_n hx hb dX8_undo_4 rfl (lv_at hl 0 rfl) ?_
  refine mf_X8_10 C K hP kf_144 dX8_undo_5 ?_
  obtain ⟨I1, r2, e3, h⟩ := mc_ob2_e h
  refine mg_Vz (As := [.ref (w.2.2.1 0)]) (rest := []) (ct_X3_takeLatest l (w := w) (I := I) (R := R) kf_0 e3) C K hP hS hl.1 kf_145 (by decide) rfl rfl ml_X8_138 wy_X3_takeLatest wd_X3_takeLatest rfl rfl rfl ⟨Nat.le_of_ble_eq_true rfl, Nat.le_of_ble_eq_true rfl⟩ (Nat.le_of_ble_eq_true rfl) ⟨Nat.zero_le _, Nat.zero_le _⟩ dX8_undo_8 (fun H locs hP z4 hS => ?_)
  refine lv_if_eq (tgt := 24) hx hb dX8_undo_11 (by decide) (fun c5 => ?_) (fun c5 => ?_)
  · replace h := mc_it h c5
    refine lv_sipush (v := (-1005)) hx hb dX8_undo_24 (by decide) ?_
    cases h
    exact mt_i hC hr hlk K hP hS dX8_undo_27
  · replace h := mc_ie h c5
    refine lv_aload_n hx hb dX8_undo_14 rfl (lv_at hl 0 rfl) ?_
    refine mf_X8_28 C K hP kf_144 dX8_undo_15 ?_
    refine mf_X8_142 C K hP kf_145 dX8_undo_18 ?_
    refine lv_goto (tgt := 27) hx hb dX8_undo_21 (by decide) ?_
    cases h
    exact mt_i hC hr hlk K hP hS dX8_undo_27
set_option maxHeartbeats 4000000 in
set_option maxRecDepth 100000 in
theorem ct_X8_keep (l : Launch) {w : mc_w} {I : Nat → Nat → Int32} {R : Nat → Nat → Option Nat} {F : Nat} {Iz : Nat → Nat → Int32} {rz : Int32} (h : mi_X8_keep F I R = some (Iz, rz)) : Met l yX8_keep (Cond.code yX8_keep cX8_keep 1 (some .int) :: mc_big) ({ frames := 2, cells := 0, slots := 0, locals := 46 } : Room) (va_Pc [.ref (w.2.2.1 144)] (mc_B mc_k 152 w I R)) (mc_Q (some (.int rz)) (mc_B mc_k 152 w Iz R) (mc_A 152 w)) 0 0 (mc_A 152 w) := by
  refine Met.ofW (cc := cX8_keep) (maxL := 1) (ret := (some .int)) (by decide) rfl ?_
  intro p e s m args below meth c s₁ B hml hv
  obtain ⟨rfl, hP, K⟩ := hv
  have hown : s.vm.findClass RX8 = some m.cls := findClass_of_methodNamed B.named
  have C : CallFix p m c cX8_keep 1 s _ mc_big RX8 := ⟨B.exec, B.bytes, hml, hown, fun w hw => atoms_spec B.pre w (List.mem_cons_of_mem _ hw)⟩
  have hx := C.1
  have hb := C.2.1
  have hC := And.intro C.1 C.2.1
  have hr := B.returns
  have hlk := B.notSynchronized
  have hS : va_S (mc_A 152 w) s.heap s.heap [] := va_S.rf
  have hl := lv_entry ([.ref (w.2.2.1 144)]) (n := 1) (Nat.le_of_ble_eq_true rfl)
  rw [lg_entry_eq]
  generalize (lg_sl ([.ref (w.2.2.1 144)]) ++ List.replicate (1 - (lg_sl ([.ref (w.2.2.1 144)])).length) Slot.unset).toArray = ls at hl ⊢
  have hl : lv_has ls 1 [(0, .ref (w.2.2.1 144))] := hl
  unfold mi_X8_keep at h
  refine lv_aload_n hx hb dX8_keep_0 rfl (lv_at hl 0 rfl) ?_
  refine mf_X8_22 C K hP kf_144 dX8_keep_1 ?_
  refine lv_aload_n hx hb dX8_keep_4 rfl (lv_at hl 0 rfl) ?_
  refine mf_X8_10 C K hP kf_144 dX8_keep_5 ?_
  obtain ⟨I1, e2, h⟩ := mc_ob_e h
  refine mg_Vv (As := [.ref (w.2.2.1 0)]) (rest := []) (ct_X5_copyFrom l (w := w) (I := I) (R := R) kf_54 kf_0 e2) C K hP hS hl.1 kf_54 (by decide) rfl rfl ml_X8_46 wy_X5_copyFrom wd_X5_copyFrom rfl rfl rfl ⟨Nat.le_of_ble_eq_true rfl, Nat.le_of_ble_eq_true rfl⟩ (Nat.le_of_ble_eq_true rfl) ⟨Nat.zero_le _, Nat.zero_le _⟩ dX8_keep_8 (fun H locs hP hS => ?_)
  refine lv_aload_n hx hb dX8_keep_11 rfl (lv_at hl 0 rfl) ?_
  refine lv_iconst (v := 1) hx hb dX8_keep_12 (by decide) ?_
  obtain ⟨I3, eI3, h⟩ := mc_bn_e h
  refine mp_X8_145 C K hP hS kf_144 eI3 ⟨by decide, by decide⟩ dX8_keep_13 (fun H locs hP hS => ?_)
  refine lv_aload_n hx hb dX8_keep_16 rfl (lv_at hl 0 rfl) ?_
  refine mf_X8_10 C K hP kf_144 dX8_keep_17 ?_
  refine mf_X8_148 C K hP kf_0 dX8_keep_20 ?_
  cases h
  exact mt_i hC hr hlk K hP hS dX8_keep_23
set_option maxHeartbeats 4000000 in
set_option maxRecDepth 100000 in
theorem ct_X8_restore (l : Launch) {w : mc_w} {I : Nat → Nat → Int32} {R : Nat → Nat → Option Nat} {F : Nat} {Iz : Nat → Nat → Int32} {Rz : Nat → Nat → Option Nat} {rz : Int32} (h : mi_X8_restore F I R = some (Iz, Rz, rz)) : Met l yX8_restore (Cond.code yX8_restore cX8_restore 1 (some .int) :: mc_big) ({ frames := 3, cells := 0, slots := 0, locals := 68 } : Room) (va_Pc [.ref (w.2.2.1 144)] (mc_B mc_k 152 w I R)) (mc_Q (some (.int rz)) (mc_B mc_k 152 w Iz Rz) (mc_A 152 w)) 0 0 (mc_A 152 w) := by
  refine Met.ofW (cc := cX8_restore) (maxL := 1) (ret := (some .int)) (by decide) rfl ?_
  intro p e s m args below meth c s₁ B hml hv
  obtain ⟨rfl, hP, K⟩ := hv
  have hown : s.vm.findClass RX8 = some m.cls := findClass_of_methodNamed B.named
  have C : CallFix p m c cX8_restore 1 s _ mc_big RX8 := ⟨B.exec, B.bytes, hml, hown, fun w hw => atoms_spec B.pre w (List.mem_cons_of_mem _ hw)⟩
  have hx := C.1
  have hb := C.2.1
  have hC := And.intro C.1 C.2.1
  have hr := B.returns
  have hlk := B.notSynchronized
  have hS : va_S (mc_A 152 w) s.heap s.heap [] := va_S.rf
  have hl := lv_entry ([.ref (w.2.2.1 144)]) (n := 1) (Nat.le_of_ble_eq_true rfl)
  rw [lg_entry_eq]
  generalize (lg_sl ([.ref (w.2.2.1 144)]) ++ List.replicate (1 - (lg_sl ([.ref (w.2.2.1 144)])).length) Slot.unset).toArray = ls at hl ⊢
  have hl : lv_has ls 1 [(0, .ref (w.2.2.1 144))] := hl
  unfold mi_X8_restore at h
  refine lv_aload_n hx hb dX8_restore_0 rfl (lv_at hl 0 rfl) ?_
  refine mf_X8_145 C K hP kf_144 dX8_restore_1 ?_
  refine lv_if_ne (tgt := 11) hx hb dX8_restore_4 (by decide) (fun c1 => ?_) (fun c1 => ?_)
  · replace h := mc_ie h c1
    refine lv_aload_n hx hb dX8_restore_11 rfl (lv_at hl 0 rfl) ?_
    refine mf_X8_28 C K hP kf_144 dX8_restore_12 ?_
    refine lv_aload_n hx hb dX8_restore_15 rfl (lv_at hl 0 rfl) ?_
    refine mf_X8_10 C K hP kf_144 dX8_restore_16 ?_
    obtain ⟨I2, R3, e4, h⟩ := mc_ob2_e h
    refine mg_Vv (As := [.ref (w.2.2.1 0)]) (rest := []) (ct_X3_add l (w := w) (I := I) (R := R) kf_0 e4) C K hP hS hl.1 kf_145 (by decide) rfl rfl ml_X8_125 wy_X3_add wd_X3_add rfl rfl rfl ⟨Nat.le_of_ble_eq_true rfl, Nat.le_of_ble_eq_true rfl⟩ (Nat.le_of_ble_eq_true rfl) ⟨Nat.zero_le _, Nat.zero_le _⟩ dX8_restore_19 (fun H locs hP hS => ?_)
    refine lv_aload_n hx hb dX8_restore_22 rfl (lv_at hl 0 rfl) ?_
    refine mf_X8_10 C K hP kf_144 dX8_restore_23 ?_
    refine lv_aload_n hx hb dX8_restore_26 rfl (lv_at hl 0 rfl) ?_
    refine mf_X8_22 C K hP kf_144 dX8_restore_27 ?_
    obtain ⟨I5, e6, h⟩ := mc_ob_e h
    refine mg_Vv (As := [.ref (w.2.2.1 54)]) (rest := []) (ct_X5_copyFrom l (w := w) (I := I2) (R := R3) kf_0 kf_54 e6) C K hP hS hl.1 kf_0 (by decide) rfl rfl ml_X8_46 wy_X5_copyFrom wd_X5_copyFrom rfl rfl rfl ⟨Nat.le_of_ble_eq_true rfl, Nat.le_of_ble_eq_true rfl⟩ (Nat.le_of_ble_eq_true rfl) ⟨Nat.zero_le _, Nat.zero_le _⟩ dX8_restore_30 (fun H locs hP hS => ?_)
    refine lv_aload_n hx hb dX8_restore_33 rfl (lv_at hl 0 rfl) ?_
    refine mf_X8_10 C K hP kf_144 dX8_restore_34 ?_
    refine mf_X8_148 C K hP kf_0 dX8_restore_37 ?_
    cases h
    exact mt_i hC hr hlk K hP hS dX8_restore_40
  · replace h := mc_it h c1
    refine lv_sipush (v := (-1005)) hx hb dX8_restore_7 (by decide) ?_
    cases h
    exact mt_i hC hr hlk K hP hS dX8_restore_10
set_option maxHeartbeats 4000000 in
set_option maxRecDepth 100000 in
theorem ct_X8_tellOfShut (l : Launch) {w : mc_w} {I : Nat → Nat → Int32} {R : Nat → Nat → Option Nat} {v1 : Nat} {v2 : Int32} (kv1 : mc_k v1 = 0) {rz : Int32} (h : mi_X8_tellOfShut I v1 v2 = rz) : Met l yX8_tellOfShut (Cond.code yX8_tellOfShut cX8_tellOfShut 3 (some .int) :: mc_big) ({ frames := 3, cells := 0, slots := 0, locals := 62 } : Room) (va_Pc [.ref (w.2.2.1 144), .ref (w.2.2.1 v1), .int v2] (mc_B mc_k 152 w I R)) (mc_Q (some (.int rz)) (mc_B mc_k 152 w I R) (mc_A 152 w)) 0 0 (mc_A 152 w) := by
  refine Met.ofW (cc := cX8_tellOfShut) (maxL := 3) (ret := (some .int)) (by decide) rfl ?_
  intro p e s m args below meth c s₁ B hml hv
  obtain ⟨rfl, hP, K⟩ := hv
  have hown : s.vm.findClass RX8 = some m.cls := findClass_of_methodNamed B.named
  have C : CallFix p m c cX8_tellOfShut 3 s _ mc_big RX8 := ⟨B.exec, B.bytes, hml, hown, fun w hw => atoms_spec B.pre w (List.mem_cons_of_mem _ hw)⟩
  have hx := C.1
  have hb := C.2.1
  have hC := And.intro C.1 C.2.1
  have hr := B.returns
  have hlk := B.notSynchronized
  have hS : va_S (mc_A 152 w) s.heap s.heap [] := va_S.rf
  have hl := lv_entry ([.ref (w.2.2.1 144), .ref (w.2.2.1 v1), .int v2]) (n := 3) (Nat.le_of_ble_eq_true rfl)
  rw [lg_entry_eq]
  generalize (lg_sl ([.ref (w.2.2.1 144), .ref (w.2.2.1 v1), .int v2]) ++ List.replicate (3 - (lg_sl ([.ref (w.2.2.1 144), .ref (w.2.2.1 v1), .int v2])).length) Slot.unset).toArray = ls at hl ⊢
  have hl : lv_has ls 3 [(0, .ref (w.2.2.1 144)), (1, .ref (w.2.2.1 v1)), (2, .int v2)] := hl
  unfold mi_X8_tellOfShut at h
  refine lv_aload_n hx hb dX8_tellOfShut_0 rfl (lv_at hl 1 rfl) ?_
  refine mf_X8_201 C K hP kv1 dX8_tellOfShut_1 ?_
  refine lv_if_ne (tgt := 11) hx hb dX8_tellOfShut_4 (by decide) (fun c1 => ?_) (fun c1 => ?_)
  · replace h := mc_ie h c1
    refine lv_iload_n hx hb dX8_tellOfShut_11 rfl (lv_at hl 2 rfl) ?_
    by_cases c2 : v2 = 6
    · replace h := mc_it h c2
      refine lv_tableIn (off := 40) (tgt := 52) hx hb dX8_tellOfShut_12 (by rw [c2]; decide) (by rw [c2]; decide) (by rw [c2]; decide) (by decide) ?_
      refine lv_aload_n hx hb dX8_tellOfShut_52 rfl (lv_at hl 1 rfl) ?_
      refine mf_X8_258 C K hP kv1 dX8_tellOfShut_53 ?_
      cases h
      exact mt_i hC hr hlk K hP hS dX8_tellOfShut_56
    replace h := mc_ie h c2
    by_cases c3 : v2 = 7
    · replace h := mc_it h c3
      refine lv_tableIn (off := 45) (tgt := 57) hx hb dX8_tellOfShut_12 (by rw [c3]; decide) (by rw [c3]; decide) (by rw [c3]; decide) (by decide) ?_
      refine lv_aload_n hx hb dX8_tellOfShut_57 rfl (lv_at hl 1 rfl) ?_
      refine mf_X8_261 C K hP kv1 dX8_tellOfShut_58 ?_
      cases h
      exact mt_i hC hr hlk K hP hS dX8_tellOfShut_61
    replace h := mc_ie h c3
    by_cases c4 : v2 = 8
    · replace h := mc_it h c4
      refine lv_tableIn (off := 50) (tgt := 62) hx hb dX8_tellOfShut_12 (by rw [c4]; decide) (by rw [c4]; decide) (by rw [c4]; decide) (by decide) ?_
      refine lv_aload_n hx hb dX8_tellOfShut_62 rfl (lv_at hl 1 rfl) ?_
      refine mf_X8_264 C K hP kv1 dX8_tellOfShut_63 ?_
      cases h
      exact mt_i hC hr hlk K hP hS dX8_tellOfShut_66
    replace h := mc_ie h c4
    by_cases c5 : v2 = 9
    · replace h := mc_it h c5
      refine lv_tableIn (off := 55) (tgt := 67) hx hb dX8_tellOfShut_12 (by rw [c5]; decide) (by rw [c5]; decide) (by rw [c5]; decide) (by decide) ?_
      refine lv_aload_n hx hb dX8_tellOfShut_67 rfl (lv_at hl 1 rfl) ?_
      refine mf_X8_267 C K hP kv1 dX8_tellOfShut_68 ?_
      cases h
      exact mt_i hC hr hlk K hP hS dX8_tellOfShut_71
    replace h := mc_ie h c5
    by_cases c6 : v2 = 10
    · replace h := mc_it h c6
      refine lv_tableIn (off := 60) (tgt := 72) hx hb dX8_tellOfShut_12 (by rw [c6]; decide) (by rw [c6]; decide) (by rw [c6]; decide) (by decide) ?_
      refine lv_aload_n hx hb dX8_tellOfShut_72 rfl (lv_at hl 1 rfl) ?_
      refine mg_Vi (As := []) (rest := []) (ct_X0_depthByPair l (w := w) (I := I) (R := R) kv1 rfl) C K hP hS hl.1 kv1 (by decide) rfl rfl ml_X8_270 wy_X0_depthByPair wd_X0_depthByPair rfl rfl rfl ⟨Nat.le_of_ble_eq_true rfl, Nat.le_of_ble_eq_true rfl⟩ (Nat.le_of_ble_eq_true rfl) ⟨Nat.zero_le _, Nat.zero_le _⟩ dX8_tellOfShut_73 (fun H locs hP hS => ?_)
      cases h
      exact mt_i hC hr hlk K hP hS dX8_tellOfShut_76
    replace h := mc_ie h c6
    by_cases c8 : v2 = 11
    · replace h := mc_it h c8
      refine lv_tableIn (off := 65) (tgt := 77) hx hb dX8_tellOfShut_12 (by rw [c8]; decide) (by rw [c8]; decide) (by rw [c8]; decide) (by decide) ?_
      refine lv_aload_n hx hb dX8_tellOfShut_77 rfl (lv_at hl 1 rfl) ?_
      refine mf_X8_273 C K hP kv1 dX8_tellOfShut_78 ?_
      cases h
      exact mt_i hC hr hlk K hP hS dX8_tellOfShut_81
    replace h := mc_ie h c8
    refine lv_tableOut (tgt := 82) hx hb dX8_tellOfShut_12 (mc_sw (lo := 6) (hi := 11) (fun v h1 h2 => by rcases (show v = 6 ∨ v = 7 ∨ v = 8 ∨ v = 9 ∨ v = 10 ∨ v = 11 by omega) with rfl | rfl | rfl | rfl | rfl | rfl <;> first | exact ⟨6, by decide, c2⟩ | exact ⟨7, by decide, c3⟩ | exact ⟨8, by decide, c4⟩ | exact ⟨9, by decide, c5⟩ | exact ⟨10, by decide, c6⟩ | exact ⟨11, by decide, c8⟩)) (by decide) ?_
    refine lv_aload_n hx hb dX8_tellOfShut_82 rfl (lv_at hl 0 rfl) ?_
    refine mf_X8_10 C K hP kf_144 dX8_tellOfShut_83 ?_
    refine lv_aload_n hx hb dX8_tellOfShut_86 rfl (lv_at hl 1 rfl) ?_
    refine mg_Vz (As := [.ref (w.2.2.1 v1)]) (rest := []) (ct_X5_isDoubtful l (w := w) (I := I) (R := R) kf_0 kv1 rfl) C K hP hS hl.1 kf_0 (by decide) rfl rfl ml_X8_276 wy_X5_isDoubtful wd_X5_isDoubtful rfl rfl rfl ⟨Nat.le_of_ble_eq_true rfl, Nat.le_of_ble_eq_true rfl⟩ (Nat.le_of_ble_eq_true rfl) ⟨Nat.zero_le _, Nat.zero_le _⟩ dX8_tellOfShut_87 (fun H locs hP z10 hS => ?_)
    refine lv_if_eq (tgt := 97) hx hb dX8_tellOfShut_90 (by decide) (fun c11 => ?_) (fun c11 => ?_)
    · replace h := mc_it h c11
      refine lv_iconst (v := 0) hx hb dX8_tellOfShut_97 (by decide) ?_
      cases h
      exact mt_i hC hr hlk K hP hS dX8_tellOfShut_98
    · replace h := mc_ie h c11
      refine lv_iconst (v := 1) hx hb dX8_tellOfShut_93 (by decide) ?_
      refine lv_goto (tgt := 98) hx hb dX8_tellOfShut_94 (by decide) ?_
      cases h
      exact mt_i hC hr hlk K hP hS dX8_tellOfShut_98
  · replace h := mc_it h c1
    refine lv_sipush (v := (-1005)) hx hb dX8_tellOfShut_7 (by decide) ?_
    cases h
    exact mt_i hC hr hlk K hP hS dX8_tellOfShut_10
set_option maxHeartbeats 4000000 in
set_option maxRecDepth 100000 in
theorem ct_X8_tellOfAny (l : Launch) {w : mc_w} {I : Nat → Nat → Int32} {R : Nat → Nat → Option Nat} {v1 : Nat} {v2 : Int32} (kv1 : mc_k v1 = 0) {rz : Int32} (h : mi_X8_tellOfAny I v1 v2 = some rz) : Met l yX8_tellOfAny (Cond.code yX8_tellOfAny cX8_tellOfAny 3 (some .int) :: mc_big) ({ frames := 3, cells := 0, slots := 0, locals := 63 } : Room) (va_Pc [.ref (w.2.2.1 144), .ref (w.2.2.1 v1), .int v2] (mc_B mc_k 152 w I R)) (mc_Q (some (.int rz)) (mc_B mc_k 152 w I R) (mc_A 152 w)) 0 0 (mc_A 152 w) := by
  refine Met.ofW (cc := cX8_tellOfAny) (maxL := 3) (ret := (some .int)) (by decide) rfl ?_
  intro p e s m args below meth c s₁ B hml hv
  obtain ⟨rfl, hP, K⟩ := hv
  have hown : s.vm.findClass RX8 = some m.cls := findClass_of_methodNamed B.named
  have C : CallFix p m c cX8_tellOfAny 3 s _ mc_big RX8 := ⟨B.exec, B.bytes, hml, hown, fun w hw => atoms_spec B.pre w (List.mem_cons_of_mem _ hw)⟩
  have hx := C.1
  have hb := C.2.1
  have hC := And.intro C.1 C.2.1
  have hr := B.returns
  have hlk := B.notSynchronized
  have hS : va_S (mc_A 152 w) s.heap s.heap [] := va_S.rf
  have hl := lv_entry ([.ref (w.2.2.1 144), .ref (w.2.2.1 v1), .int v2]) (n := 3) (Nat.le_of_ble_eq_true rfl)
  rw [lg_entry_eq]
  generalize (lg_sl ([.ref (w.2.2.1 144), .ref (w.2.2.1 v1), .int v2]) ++ List.replicate (3 - (lg_sl ([.ref (w.2.2.1 144), .ref (w.2.2.1 v1), .int v2])).length) Slot.unset).toArray = ls at hl ⊢
  have hl : lv_has ls 3 [(0, .ref (w.2.2.1 144)), (1, .ref (w.2.2.1 v1)), (2, .int v2)] := hl
  unfold mi_X8_tellOfAny at h
  refine lv_iload_n hx hb dX8_tellOfAny_0 rfl (lv_at hl 2 rfl) ?_
  by_cases c1 : v2 = 0
  · replace h := mc_it h c1
    refine lv_tableIn (off := 39) (tgt := 40) hx hb dX8_tellOfAny_1 (by rw [c1]; decide) (by rw [c1]; decide) (by rw [c1]; decide) (by decide) ?_
    refine lv_aload_n hx hb dX8_tellOfAny_40 rfl (lv_at hl 1 rfl) ?_
    refine mf_X8_206 C K hP kv1 dX8_tellOfAny_41 ?_
    cases h
    exact mt_i hC hr hlk K hP hS dX8_tellOfAny_44
  replace h := mc_ie h c1
  by_cases c2 : v2 = 1
  · replace h := mc_it h c2
    refine lv_tableIn (off := 44) (tgt := 45) hx hb dX8_tellOfAny_1 (by rw [c2]; decide) (by rw [c2]; decide) (by rw [c2]; decide) (by decide) ?_
    refine lv_aload_n hx hb dX8_tellOfAny_45 rfl (lv_at hl 0 rfl) ?_
    refine mf_X8_10 C K hP kf_144 dX8_tellOfAny_46 ?_
    refine mf_X8_174 C K hP kf_0 dX8_tellOfAny_49 ?_
    refine lv_aload_n hx hb dX8_tellOfAny_52 rfl (lv_at hl 1 rfl) ?_
    refine mf_X8_206 C K hP kv1 dX8_tellOfAny_53 ?_
    refine mg_Vi (As := [.int (I v1 0)]) (rest := []) (ct_X1_metreOf l (w := w) (I := I) (R := R) (kk_5_1 kf_0) rfl) C K hP hS hl.1 (kk_5_1 kf_0) (by decide) rfl rfl ml_X8_246 wy_X1_metreOf wd_X1_metreOf rfl rfl rfl ⟨Nat.le_of_ble_eq_true rfl, Nat.le_of_ble_eq_true rfl⟩ (Nat.le_of_ble_eq_true rfl) ⟨Nat.zero_le _, Nat.zero_le _⟩ dX8_tellOfAny_56 (fun H locs hP hS => ?_)
    cases h
    exact mt_i hC hr hlk K hP hS dX8_tellOfAny_59
  replace h := mc_ie h c2
  by_cases c4 : v2 = 2
  · replace h := mc_it h c4
    refine lv_tableIn (off := 59) (tgt := 60) hx hb dX8_tellOfAny_1 (by rw [c4]; decide) (by rw [c4]; decide) (by rw [c4]; decide) (by decide) ?_
    refine lv_aload_n hx hb dX8_tellOfAny_60 rfl (lv_at hl 0 rfl) ?_
    refine mf_X8_10 C K hP kf_144 dX8_tellOfAny_61 ?_
    refine mf_X8_174 C K hP kf_0 dX8_tellOfAny_64 ?_
    refine lv_aload_n hx hb dX8_tellOfAny_67 rfl (lv_at hl 1 rfl) ?_
    refine mf_X8_206 C K hP kv1 dX8_tellOfAny_68 ?_
    obtain ⟨r5, e6, h⟩ := mc_ob_e h
    refine mg_Vi (As := [.int (I v1 0)]) (rest := []) (ct_X1_depthOf l (w := w) (I := I) (R := R) (kk_5_1 kf_0) e6) C K hP hS hl.1 (kk_5_1 kf_0) (by decide) rfl rfl ml_X8_178 wy_X1_depthOf wd_X1_depthOf rfl rfl rfl ⟨Nat.le_of_ble_eq_true rfl, Nat.le_of_ble_eq_true rfl⟩ (Nat.le_of_ble_eq_true rfl) ⟨Nat.zero_le _, Nat.zero_le _⟩ dX8_tellOfAny_71 (fun H locs hP hS => ?_)
    cases h
    exact mt_i hC hr hlk K hP hS dX8_tellOfAny_74
  replace h := mc_ie h c4
  by_cases c7 : v2 = 3
  · replace h := mc_it h c7
    refine lv_tableIn (off := 74) (tgt := 75) hx hb dX8_tellOfAny_1 (by rw [c7]; decide) (by rw [c7]; decide) (by rw [c7]; decide) (by decide) ?_
    refine lv_aload_n hx hb dX8_tellOfAny_75 rfl (lv_at hl 1 rfl) ?_
    refine mf_X8_201 C K hP kv1 dX8_tellOfAny_76 ?_
    refine lv_if_eq (tgt := 86) hx hb dX8_tellOfAny_79 (by decide) (fun c8 => ?_) (fun c8 => ?_)
    · replace h := mc_it h c8
      refine lv_iconst (v := 0) hx hb dX8_tellOfAny_86 (by decide) ?_
      cases h
      exact mt_i hC hr hlk K hP hS dX8_tellOfAny_87
    · replace h := mc_ie h c8
      refine lv_iconst (v := 1) hx hb dX8_tellOfAny_82 (by decide) ?_
      refine lv_goto (tgt := 87) hx hb dX8_tellOfAny_83 (by decide) ?_
      cases h
      exact mt_i hC hr hlk K hP hS dX8_tellOfAny_87
  replace h := mc_ie h c7
  by_cases c9 : v2 = 4
  · replace h := mc_it h c9
    refine lv_tableIn (off := 87) (tgt := 88) hx hb dX8_tellOfAny_1 (by rw [c9]; decide) (by rw [c9]; decide) (by rw [c9]; decide) (by decide) ?_
    refine lv_aload_n hx hb dX8_tellOfAny_88 rfl (lv_at hl 1 rfl) ?_
    refine mf_X8_249 C K hP kv1 dX8_tellOfAny_89 ?_
    refine lv_if_eq (tgt := 99) hx hb dX8_tellOfAny_92 (by decide) (fun c10 => ?_) (fun c10 => ?_)
    · replace h := mc_it h c10
      refine lv_iconst (v := 0) hx hb dX8_tellOfAny_99 (by decide) ?_
      cases h
      exact mt_i hC hr hlk K hP hS dX8_tellOfAny_100
    · replace h := mc_ie h c10
      refine lv_iconst (v := 1) hx hb dX8_tellOfAny_95 (by decide) ?_
      refine lv_goto (tgt := 100) hx hb dX8_tellOfAny_96 (by decide) ?_
      cases h
      exact mt_i hC hr hlk K hP hS dX8_tellOfAny_100
  replace h := mc_ie h c9
  by_cases c11 : v2 = 5
  · replace h := mc_it h c11
    refine lv_tableIn (off := 100) (tgt := 101) hx hb dX8_tellOfAny_1 (by rw [c11]; decide) (by rw [c11]; decide) (by rw [c11]; decide) (by decide) ?_
    refine lv_aload_n hx hb dX8_tellOfAny_101 rfl (lv_at hl 1 rfl) ?_
    refine mf_X8_252 C K hP kv1 dX8_tellOfAny_102 ?_
    cases h
    exact mt_i hC hr hlk K hP hS dX8_tellOfAny_105
  replace h := mc_ie h c11
  refine lv_tableOut (tgt := 106) hx hb dX8_tellOfAny_1 (mc_sw (lo := 0) (hi := 5) (fun v h1 h2 => by rcases (show v = 0 ∨ v = 1 ∨ v = 2 ∨ v = 3 ∨ v = 4 ∨ v = 5 by omega) with rfl | rfl | rfl | rfl | rfl | rfl <;> first | exact ⟨0, by decide, c1⟩ | exact ⟨1, by decide, c2⟩ | exact ⟨2, by decide, c4⟩ | exact ⟨3, by decide, c7⟩ | exact ⟨4, by decide, c9⟩ | exact ⟨5, by decide, c11⟩)) (by decide) ?_
  refine lv_aload_n hx hb dX8_tellOfAny_106 rfl (lv_at hl 1 rfl) ?_
  refine mf_X8_255 C K hP kv1 dX8_tellOfAny_107 ?_
  refine lv_if_eq (tgt := 117) hx hb dX8_tellOfAny_110 (by decide) (fun c12 => ?_) (fun c12 => ?_)
  · replace h := mc_it h c12
    refine lv_iconst (v := 0) hx hb dX8_tellOfAny_117 (by decide) ?_
    cases h
    exact mt_i hC hr hlk K hP hS dX8_tellOfAny_118
  · replace h := mc_ie h c12
    refine lv_iconst (v := 1) hx hb dX8_tellOfAny_113 (by decide) ?_
    refine lv_goto (tgt := 118) hx hb dX8_tellOfAny_114 (by decide) ?_
    cases h
    exact mt_i hC hr hlk K hP hS dX8_tellOfAny_118
set_option maxHeartbeats 4000000 in
set_option maxRecDepth 100000 in
theorem ct_X8_bottle (l : Launch) {w : mc_w} {I : Nat → Nat → Int32} {R : Nat → Nat → Option Nat} {v1 : Int32} {v2 : Int32} {rz : Int32} (h : mi_X8_bottle I R v1 v2 = some rz) : Met l yX8_bottle (Cond.code yX8_bottle cX8_bottle 4 (some .int) :: mc_big) ({ frames := 4, cells := 0, slots := 0, locals := 85 } : Room) (va_Pc [.ref (w.2.2.1 144), .int v1, .int v2] (mc_B mc_k 152 w I R)) (mc_Q (some (.int rz)) (mc_B mc_k 152 w I R) (mc_A 152 w)) 0 0 (mc_A 152 w) := by
  refine Met.ofW (cc := cX8_bottle) (maxL := 4) (ret := (some .int)) (by decide) rfl ?_
  intro p e s m args below meth c s₁ B hml hv
  obtain ⟨rfl, hP, K⟩ := hv
  have hown : s.vm.findClass RX8 = some m.cls := findClass_of_methodNamed B.named
  have C : CallFix p m c cX8_bottle 4 s _ mc_big RX8 := ⟨B.exec, B.bytes, hml, hown, fun w hw => atoms_spec B.pre w (List.mem_cons_of_mem _ hw)⟩
  have hx := C.1
  have hb := C.2.1
  have hC := And.intro C.1 C.2.1
  have hr := B.returns
  have hlk := B.notSynchronized
  have hS : va_S (mc_A 152 w) s.heap s.heap [] := va_S.rf
  have hl := lv_entry ([.ref (w.2.2.1 144), .int v1, .int v2]) (n := 4) (Nat.le_of_ble_eq_true rfl)
  rw [lg_entry_eq]
  generalize (lg_sl ([.ref (w.2.2.1 144), .int v1, .int v2]) ++ List.replicate (4 - (lg_sl ([.ref (w.2.2.1 144), .int v1, .int v2])).length) Slot.unset).toArray = ls at hl ⊢
  have hl : lv_has ls 4 [(0, .ref (w.2.2.1 144)), (1, .int v1), (2, .int v2)] := hl
  unfold mi_X8_bottle at h
  refine lv_aload_n hx hb dX8_bottle_0 rfl (lv_at hl 0 rfl) ?_
  refine mf_X8_10 C K hP kf_144 dX8_bottle_1 ?_
  refine lv_iload_n hx hb dX8_bottle_4 rfl (lv_at hl 1 rfl) ?_
  obtain ⟨r1, e2, h⟩ := mc_ob_e h
  refine mg_Vr (As := [.int v1]) (rest := []) (ct_X5_bottleAt l (w := w) (I := I) (R := R) kf_0 e2) C K hP hS hl.1 kf_0 (by decide) rfl rfl ml_X8_151 wy_X5_bottleAt wd_X5_bottleAt rfl rfl rfl ⟨Nat.le_of_ble_eq_true rfl, Nat.le_of_ble_eq_true rfl⟩ (Nat.le_of_ble_eq_true rfl) ⟨Nat.zero_le _, Nat.zero_le _⟩ dX8_bottle_5 (fun H locs hP tr1 hS => ?_)
  refine mv_astore_n (i := 3) (lv' := [(3, va_re w.2.2.1 r1), (0, .ref (w.2.2.1 144)), (1, .int v1), (2, .int v2)]) hC dX8_bottle_8 rfl hl (by decide) rfl (fun ls hl => ?_)
  refine mv_aload_n hC dX8_bottle_9 rfl (lv_at hl 0 rfl) ?_
  rcases r1 with _ | b3
  · replace h := mc_om_n h
    refine lv_ifnonnullN hx hb dX8_bottle_10 ?_
    have hl : lv_has ls 4 [(3, va_re w.2.2.1 none), (0, .ref (w.2.2.1 144)), (1, .int v1), (2, .int v2)] := hl
    refine lv_sipush (v := (-1001)) hx hb dX8_bottle_13 (by decide) ?_
    cases h
    exact mt_i hC hr hlk K hP hS dX8_bottle_16
  · replace h := mc_om_s h
    have kb3 := tr1 b3 rfl
    refine lv_ifnonnull (tgt := 17) hx hb dX8_bottle_10 (by decide) ?_
    have hl : lv_has ls 4 [(3, .ref (w.2.2.1 b3)), (0, .ref (w.2.2.1 144)), (1, .int v1), (2, .int v2)] := hl
    refine lv_iload_n hx hb dX8_bottle_17 rfl (lv_at hl 3 rfl) ?_
    refine lv_if_lt (tgt := 27) hx hb dX8_bottle_18 (by decide) (fun c4 => ?_) (fun c4 => ?_)
    · replace h := mc_it h c4
      refine lv_sipush (v := (-1002)) hx hb dX8_bottle_27 (by decide) ?_
      cases h
      exact mt_i hC hr hlk K hP hS dX8_bottle_30
    · replace h := mc_ie h c4
      refine lv_iload_n hx hb dX8_bottle_21 rfl (lv_at hl 3 rfl) ?_
      refine lv_bipush (v := 13) hx hb dX8_bottle_22 (by decide) ?_
      refine lv_icmp_le (tgt := 31) hx hb dX8_bottle_24 (by decide) (fun c5 => ?_) (fun c5 => ?_)
      · replace h := mc_it h c5
        refine lv_iload_n hx hb dX8_bottle_31 rfl (lv_at hl 3 rfl) ?_
        refine lv_bipush (v := 6) hx hb dX8_bottle_32 (by decide) ?_
        refine lv_icmp_lt (tgt := 52) hx hb dX8_bottle_34 (by decide) (fun c6 => ?_) (fun c6 => ?_)
        · replace h := mc_it h c6
          refine lv_aload_n hx hb dX8_bottle_52 rfl (lv_at hl 1 rfl) ?_
          refine lv_aload_n hx hb dX8_bottle_53 rfl (lv_at hl 0 rfl) ?_
          refine lv_iload_n hx hb dX8_bottle_54 rfl (lv_at hl 3 rfl) ?_
          obtain ⟨r7, e8, h⟩ := mc_ob_e h
          refine mg_Vi (As := [.ref (w.2.2.1 b3), .int v2]) (rest := []) (ct_X8_tellOfAny l (w := w) (I := I) (R := R) kb3 e8) C K hP hS hl.1 kf_144 (by decide) rfl rfl ml_X8_159 wy_X8_tellOfAny wd_X8_tellOfAny rfl rfl rfl ⟨Nat.le_of_ble_eq_true rfl, Nat.le_of_ble_eq_true rfl⟩ (Nat.le_of_ble_eq_true rfl) ⟨Nat.zero_le _, Nat.zero_le _⟩ dX8_bottle_55 (fun H locs hP hS => ?_)
          cases h
          exact mt_i hC hr hlk K hP hS dX8_bottle_58
        · replace h := mc_ie h c6
          refine lv_iload_n hx hb dX8_bottle_37 rfl (lv_at hl 3 rfl) ?_
          refine lv_bipush (v := 12) hx hb dX8_bottle_38 (by decide) ?_
          refine lv_icmp_gt (tgt := 52) hx hb dX8_bottle_40 (by decide) (fun c9 => ?_) (fun c9 => ?_)
          · replace h := mc_it h c9
            refine lv_aload_n hx hb dX8_bottle_52 rfl (lv_at hl 1 rfl) ?_
            refine lv_aload_n hx hb dX8_bottle_53 rfl (lv_at hl 0 rfl) ?_
            refine lv_iload_n hx hb dX8_bottle_54 rfl (lv_at hl 3 rfl) ?_
            obtain ⟨r10, e11, h⟩ := mc_ob_e h
            refine mg_Vi (As := [.ref (w.2.2.1 b3), .int v2]) (rest := []) (ct_X8_tellOfAny l (w := w) (I := I) (R := R) kb3 e11) C K hP hS hl.1 kf_144 (by decide) rfl rfl ml_X8_159 wy_X8_tellOfAny wd_X8_tellOfAny rfl rfl rfl ⟨Nat.le_of_ble_eq_true rfl, Nat.le_of_ble_eq_true rfl⟩ (Nat.le_of_ble_eq_true rfl) ⟨Nat.zero_le _, Nat.zero_le _⟩ dX8_bottle_55 (fun H locs hP hS => ?_)
            cases h
            exact mt_i hC hr hlk K hP hS dX8_bottle_58
          · replace h := mc_ie h c9
            refine lv_aload_n hx hb dX8_bottle_43 rfl (lv_at hl 1 rfl) ?_
            refine lv_aload_n hx hb dX8_bottle_44 rfl (lv_at hl 0 rfl) ?_
            refine lv_iload_n hx hb dX8_bottle_45 rfl (lv_at hl 3 rfl) ?_
            refine mg_Vi (As := [.ref (w.2.2.1 b3), .int v2]) (rest := []) (ct_X8_tellOfShut l (w := w) (I := I) (R := R) kb3 rfl) C K hP hS hl.1 kf_144 (by decide) rfl rfl ml_X8_155 wy_X8_tellOfShut wd_X8_tellOfShut rfl rfl rfl ⟨Nat.le_of_ble_eq_true rfl, Nat.le_of_ble_eq_true rfl⟩ (Nat.le_of_ble_eq_true rfl) ⟨Nat.zero_le _, Nat.zero_le _⟩ dX8_bottle_46 (fun H locs hP hS => ?_)
            refine lv_goto (tgt := 58) hx hb dX8_bottle_49 (by decide) ?_
            cases h
            exact mt_i hC hr hlk K hP hS dX8_bottle_58
      · replace h := mc_ie h c5
        refine lv_sipush (v := (-1002)) hx hb dX8_bottle_27 (by decide) ?_
        cases h
        exact mt_i hC hr hlk K hP hS dX8_bottle_30
set_option maxHeartbeats 4000000 in
set_option maxRecDepth 100000 in
theorem ct_X8_messenger (l : Launch) {w : mc_w} {I : Nat → Nat → Int32} {R : Nat → Nat → Option Nat} {v1 : Int32} {v2 : Int32} {rz : Int32} (h : mi_X8_messenger I v1 v2 = some rz) : Met l yX8_messenger (Cond.code yX8_messenger cX8_messenger 4 (some .int) :: mc_big) ({ frames := 3, cells := 0, slots := 0, locals := 63 } : Room) (va_Pc [.ref (w.2.2.1 144), .int v1, .int v2] (mc_B mc_k 152 w I R)) (mc_Q (some (.int rz)) (mc_B mc_k 152 w I R) (mc_A 152 w)) 0 0 (mc_A 152 w) := by
  refine Met.ofW (cc := cX8_messenger) (maxL := 4) (ret := (some .int)) (by decide) rfl ?_
  intro p e s m args below meth c s₁ B hml hv
  obtain ⟨rfl, hP, K⟩ := hv
  have hown : s.vm.findClass RX8 = some m.cls := findClass_of_methodNamed B.named
  have C : CallFix p m c cX8_messenger 4 s _ mc_big RX8 := ⟨B.exec, B.bytes, hml, hown, fun w hw => atoms_spec B.pre w (List.mem_cons_of_mem _ hw)⟩
  have hx := C.1
  have hb := C.2.1
  have hC := And.intro C.1 C.2.1
  have hr := B.returns
  have hlk := B.notSynchronized
  have hS : va_S (mc_A 152 w) s.heap s.heap [] := va_S.rf
  have hl := lv_entry ([.ref (w.2.2.1 144), .int v1, .int v2]) (n := 4) (Nat.le_of_ble_eq_true rfl)
  rw [lg_entry_eq]
  generalize (lg_sl ([.ref (w.2.2.1 144), .int v1, .int v2]) ++ List.replicate (4 - (lg_sl ([.ref (w.2.2.1 144), .int v1, .int v2])).length) Slot.unset).toArray = ls at hl ⊢
  have hl : lv_has ls 4 [(0, .ref (w.2.2.1 144)), (1, .int v1), (2, .int v2)] := hl
  unfold mi_X8_messenger at h
  refine lv_iload_n hx hb dX8_messenger_0 rfl (lv_at hl 1 rfl) ?_
  refine lv_if_lt (tgt := 13) hx hb dX8_messenger_1 (by decide) (fun c1 => ?_) (fun c1 => ?_)
  · replace h := mc_it h c1
    refine lv_sipush (v := (-1002)) hx hb dX8_messenger_13 (by decide) ?_
    cases h
    exact mt_i hC hr hlk K hP hS dX8_messenger_16
  · replace h := mc_ie h c1
    refine lv_iload_n hx hb dX8_messenger_4 rfl (lv_at hl 2 rfl) ?_
    refine lv_if_lt (tgt := 13) hx hb dX8_messenger_5 (by decide) (fun c2 => ?_) (fun c2 => ?_)
    · replace h := mc_it h c2
      refine lv_sipush (v := (-1002)) hx hb dX8_messenger_13 (by decide) ?_
      cases h
      exact mt_i hC hr hlk K hP hS dX8_messenger_16
    · replace h := mc_ie h c2
      refine lv_iload_n hx hb dX8_messenger_8 rfl (lv_at hl 2 rfl) ?_
      refine lv_iconst (v := 1) hx hb dX8_messenger_9 (by decide) ?_
      refine lv_icmp_le (tgt := 17) hx hb dX8_messenger_10 (by decide) (fun c3 => ?_) (fun c3 => ?_)
      · replace h := mc_it h c3
        refine lv_iload_n hx hb dX8_messenger_17 rfl (lv_at hl 1 rfl) ?_
        refine lv_aload_n hx hb dX8_messenger_18 rfl (lv_at hl 0 rfl) ?_
        refine mf_X8_10 C K hP kf_144 dX8_messenger_19 ?_
        refine mf_X8_162 C K hP kf_0 dX8_messenger_22 ?_
        refine mf_X8_166 C K hP (kk_5_5 kf_0) dX8_messenger_25 ?_
        refine lv_icmp_lt (tgt := 35) hx hb dX8_messenger_28 (by decide) (fun c4 => ?_) (fun c4 => ?_)
        · replace h := mc_it h c4
          refine lv_aload_n hx hb dX8_messenger_35 rfl (lv_at hl 0 rfl) ?_
          refine mf_X8_10 C K hP kf_144 dX8_messenger_36 ?_
          refine mf_X8_162 C K hP kf_0 dX8_messenger_39 ?_
          refine lv_iload_n hx hb dX8_messenger_42 rfl (lv_at hl 1 rfl) ?_
          obtain ⟨r5, e6, h⟩ := mc_ob_e h
          refine mg_Vi (As := [.int v1]) (rest := []) (ct_X4_markAt l (w := w) (I := I) (R := R) (kk_5_5 kf_0) e6) C K hP hS hl.1 (kk_5_5 kf_0) (by decide) rfl rfl ml_X8_171 wy_X4_markAt wd_X4_markAt rfl rfl rfl ⟨Nat.le_of_ble_eq_true rfl, Nat.le_of_ble_eq_true rfl⟩ (Nat.le_of_ble_eq_true rfl) ⟨Nat.zero_le _, Nat.zero_le _⟩ dX8_messenger_43 (fun H locs hP hS => ?_)
          refine lv_istore_n (i := 3) (lv' := [(3, .int r5), (0, .ref (w.2.2.1 144)), (1, .int v1), (2, .int v2)]) hx hb dX8_messenger_46 rfl hl (by decide) rfl (fun ls hl => ?_)
          refine lv_iload_n hx hb dX8_messenger_47 rfl (lv_at hl 3 rfl) ?_
          refine lv_if_ne (tgt := 55) hx hb dX8_messenger_48 (by decide) (fun c7 => ?_) (fun c7 => ?_)
          · replace h := mc_ie h c7
            refine lv_aload_n hx hb dX8_messenger_55 rfl (lv_at hl 1 rfl) ?_
            refine mf_X8_10 C K hP kf_144 dX8_messenger_56 ?_
            refine mf_X8_174 C K hP kf_0 dX8_messenger_59 ?_
            refine lv_iload_n hx hb dX8_messenger_62 rfl (lv_at hl 0 rfl) ?_
            obtain ⟨r8, e9, h⟩ := mc_ob_e h
            refine mg_Vi (As := [.int r5]) (rest := []) (ct_X1_depthOf l (w := w) (I := I) (R := R) (kk_5_1 kf_0) e9) C K hP hS hl.1 (kk_5_1 kf_0) (by decide) rfl rfl ml_X8_178 wy_X1_depthOf wd_X1_depthOf rfl rfl rfl ⟨Nat.le_of_ble_eq_true rfl, Nat.le_of_ble_eq_true rfl⟩ (Nat.le_of_ble_eq_true rfl) ⟨Nat.zero_le _, Nat.zero_le _⟩ dX8_messenger_63 (fun H locs hP hS => ?_)
            cases h
            exact mt_i hC hr hlk K hP hS dX8_messenger_66
          · replace h := mc_it h c7
            refine lv_iload_n hx hb dX8_messenger_51 rfl (lv_at hl 0 rfl) ?_
            refine lv_goto (tgt := 66) hx hb dX8_messenger_52 (by decide) ?_
            cases h
            exact mt_i hC hr hlk K hP hS dX8_messenger_66
        · replace h := mc_ie h c4
          refine lv_sipush (v := (-1005)) hx hb dX8_messenger_31 (by decide) ?_
          cases h
          exact mt_i hC hr hlk K hP hS dX8_messenger_34
      · replace h := mc_ie h c3
        refine lv_sipush (v := (-1002)) hx hb dX8_messenger_13 (by decide) ?_
        cases h
        exact mt_i hC hr hlk K hP hS dX8_messenger_16
set_option maxHeartbeats 4000000 in
set_option maxRecDepth 100000 in
theorem ct_X8_layer (l : Launch) {w : mc_w} {I : Nat → Nat → Int32} {R : Nat → Nat → Option Nat} {F : Nat} {v1 : Int32} {v2 : Int32} {rz : Int32} (h : mi_X8_layer F I R v1 v2 = some rz) : Met l yX8_layer (Cond.code yX8_layer cX8_layer 3 (some .int) :: mc_big) ({ frames := 4, cells := 0, slots := 0, locals := 87 } : Room) (va_Pc [.ref (w.2.2.1 144), .int v1, .int v2] (mc_B mc_k 152 w I R)) (mc_Q (some (.int rz)) (mc_B mc_k 152 w I R) (mc_A 152 w)) 0 0 (mc_A 152 w) := by
  refine Met.ofW (cc := cX8_layer) (maxL := 3) (ret := (some .int)) (by decide) rfl ?_
  intro p e s m args below meth c s₁ B hml hv
  obtain ⟨rfl, hP, K⟩ := hv
  have hown : s.vm.findClass RX8 = some m.cls := findClass_of_methodNamed B.named
  have C : CallFix p m c cX8_layer 3 s _ mc_big RX8 := ⟨B.exec, B.bytes, hml, hown, fun w hw => atoms_spec B.pre w (List.mem_cons_of_mem _ hw)⟩
  have hx := C.1
  have hb := C.2.1
  have hC := And.intro C.1 C.2.1
  have hr := B.returns
  have hlk := B.notSynchronized
  have hS : va_S (mc_A 152 w) s.heap s.heap [] := va_S.rf
  have hl := lv_entry ([.ref (w.2.2.1 144), .int v1, .int v2]) (n := 3) (Nat.le_of_ble_eq_true rfl)
  rw [lg_entry_eq]
  generalize (lg_sl ([.ref (w.2.2.1 144), .int v1, .int v2]) ++ List.replicate (3 - (lg_sl ([.ref (w.2.2.1 144), .int v1, .int v2])).length) Slot.unset).toArray = ls at hl ⊢
  have hl : lv_has ls 3 [(0, .ref (w.2.2.1 144)), (1, .int v1), (2, .int v2)] := hl
  unfold mi_X8_layer at h
  refine lv_aload_n hx hb dX8_layer_0 rfl (lv_at hl 0 rfl) ?_
  refine mf_X8_10 C K hP kf_144 dX8_layer_1 ?_
  refine mf_X8_77 C K hP kf_0 dX8_layer_4 ?_
  refine lv_iload_n hx hb dX8_layer_7 rfl (lv_at hl 1 rfl) ?_
  refine mg_Vz (As := [.int v1]) (rest := []) (ct_X7_has l (w := w) (I := I) (R := R) (kk_5_2 kf_0) rfl) C K hP hS hl.1 (kk_5_2 kf_0) (by decide) rfl rfl ml_X8_183 wy_X7_has wd_X7_has rfl rfl rfl ⟨Nat.le_of_ble_eq_true rfl, Nat.le_of_ble_eq_true rfl⟩ (Nat.le_of_ble_eq_true rfl) ⟨Nat.zero_le _, Nat.zero_le _⟩ dX8_layer_8 (fun H locs hP z2 hS => ?_)
  refine lv_if_ne (tgt := 18) hx hb dX8_layer_11 (by decide) (fun c3 => ?_) (fun c3 => ?_)
  · replace h := mc_ie h c3
    refine lv_iload_n hx hb dX8_layer_18 rfl (lv_at hl 2 rfl) ?_
    by_cases c4 : v2 = 0
    · replace h := mc_it h c4
      refine lv_tableIn (off := 29) (tgt := 48) hx hb dX8_layer_19 (by rw [c4]; decide) (by rw [c4]; decide) (by rw [c4]; decide) (by decide) ?_
      refine lv_aload_n hx hb dX8_layer_48 rfl (lv_at hl 0 rfl) ?_
      refine mf_X8_10 C K hP kf_144 dX8_layer_49 ?_
      refine mf_X8_77 C K hP kf_0 dX8_layer_52 ?_
      refine lv_iload_n hx hb dX8_layer_55 rfl (lv_at hl 1 rfl) ?_
      obtain ⟨r5, e6, h⟩ := mc_ob_e h
      refine mg_Vi (As := [.int v1]) (rest := []) (ct_X7_warmthIn l (w := w) (I := I) (R := R) (kk_5_2 kf_0) e6) C K hP hS hl.1 (kk_5_2 kf_0) (by decide) rfl rfl ml_X8_186 wy_X7_warmthIn wd_X7_warmthIn rfl rfl rfl ⟨Nat.le_of_ble_eq_true rfl, Nat.le_of_ble_eq_true rfl⟩ (Nat.le_of_ble_eq_true rfl) ⟨Nat.zero_le _, Nat.zero_le _⟩ dX8_layer_56 (fun H locs hP hS => ?_)
      cases h
      exact mt_i hC hr hlk K hP hS dX8_layer_59
    replace h := mc_ie h c4
    by_cases c7 : v2 = 1
    · replace h := mc_it h c7
      refine lv_tableIn (off := 41) (tgt := 60) hx hb dX8_layer_19 (by rw [c7]; decide) (by rw [c7]; decide) (by rw [c7]; decide) (by decide) ?_
      refine lv_aload_n hx hb dX8_layer_60 rfl (lv_at hl 0 rfl) ?_
      refine mf_X8_10 C K hP kf_144 dX8_layer_61 ?_
      refine mf_X8_77 C K hP kf_0 dX8_layer_64 ?_
      refine lv_iload_n hx hb dX8_layer_67 rfl (lv_at hl 1 rfl) ?_
      obtain ⟨r8, e9, h⟩ := mc_ob_e h
      refine mg_Vi (As := [.int v1]) (rest := []) (ct_X7_saltIn l (w := w) (I := I) (R := R) (kk_5_2 kf_0) e9) C K hP hS hl.1 (kk_5_2 kf_0) (by decide) rfl rfl ml_X8_189 wy_X7_saltIn wd_X7_saltIn rfl rfl rfl ⟨Nat.le_of_ble_eq_true rfl, Nat.le_of_ble_eq_true rfl⟩ (Nat.le_of_ble_eq_true rfl) ⟨Nat.zero_le _, Nat.zero_le _⟩ dX8_layer_68 (fun H locs hP hS => ?_)
      cases h
      exact mt_i hC hr hlk K hP hS dX8_layer_71
    replace h := mc_ie h c7
    by_cases c10 : v2 = 2
    · replace h := mc_it h c10
      refine lv_tableIn (off := 53) (tgt := 72) hx hb dX8_layer_19 (by rw [c10]; decide) (by rw [c10]; decide) (by rw [c10]; decide) (by decide) ?_
      refine lv_aload_n hx hb dX8_layer_72 rfl (lv_at hl 0 rfl) ?_
      refine mf_X8_10 C K hP kf_144 dX8_layer_73 ?_
      refine lv_iload_n hx hb dX8_layer_76 rfl (lv_at hl 1 rfl) ?_
      obtain ⟨r11, e12, h⟩ := mc_ob_e h
      refine mg_Vi (As := [.int v1]) (rest := []) (ct_X5_openInLayer l (w := w) (I := I) (R := R) kf_0 e12) C K hP hS hl.1 kf_0 (by decide) rfl rfl ml_X8_192 wy_X5_openInLayer wd_X5_openInLayer rfl rfl rfl ⟨Nat.le_of_ble_eq_true rfl, Nat.le_of_ble_eq_true rfl⟩ (Nat.le_of_ble_eq_true rfl) ⟨Nat.zero_le _, Nat.zero_le _⟩ dX8_layer_77 (fun H locs hP hS => ?_)
      cases h
      exact mt_i hC hr hlk K hP hS dX8_layer_80
    replace h := mc_ie h c10
    by_cases c13 : v2 = 3
    · replace h := mc_it h c13
      refine lv_tableIn (off := 62) (tgt := 81) hx hb dX8_layer_19 (by rw [c13]; decide) (by rw [c13]; decide) (by rw [c13]; decide) (by decide) ?_
      refine lv_aload_n hx hb dX8_layer_81 rfl (lv_at hl 0 rfl) ?_
      refine mf_X8_10 C K hP kf_144 dX8_layer_82 ?_
      refine lv_iload_n hx hb dX8_layer_85 rfl (lv_at hl 1 rfl) ?_
      obtain ⟨r14, e15, h⟩ := mc_ob_e h
      refine mg_Vi (As := [.int v1]) (rest := []) (ct_X5_shutInLayer l (w := w) (I := I) (R := R) kf_0 e15) C K hP hS hl.1 kf_0 (by decide) rfl rfl ml_X8_195 wy_X5_shutInLayer wd_X5_shutInLayer rfl rfl rfl ⟨Nat.le_of_ble_eq_true rfl, Nat.le_of_ble_eq_true rfl⟩ (Nat.le_of_ble_eq_true rfl) ⟨Nat.zero_le _, Nat.zero_le _⟩ dX8_layer_86 (fun H locs hP hS => ?_)
      cases h
      exact mt_i hC hr hlk K hP hS dX8_layer_89
    replace h := mc_ie h c13
    refine lv_tableOut (tgt := 90) hx hb dX8_layer_19 (mc_sw (lo := 0) (hi := 3) (fun v h1 h2 => by rcases (show v = 0 ∨ v = 1 ∨ v = 2 ∨ v = 3 by omega) with rfl | rfl | rfl | rfl <;> first | exact ⟨0, by decide, c4⟩ | exact ⟨1, by decide, c7⟩ | exact ⟨2, by decide, c10⟩ | exact ⟨3, by decide, c13⟩)) (by decide) ?_
    refine lv_sipush (v := (-1002)) hx hb dX8_layer_90 (by decide) ?_
    cases h
    exact mt_i hC hr hlk K hP hS dX8_layer_93
  · replace h := mc_it h c3
    refine lv_sipush (v := (-1001)) hx hb dX8_layer_14 (by decide) ?_
    cases h
    exact mt_i hC hr hlk K hP hS dX8_layer_17
set_option maxHeartbeats 4000000 in
set_option maxRecDepth 100000 in
theorem ct_X8_depth (l : Launch) {w : mc_w} {I : Nat → Nat → Int32} {R : Nat → Nat → Option Nat} {v1 : Int32} {v2 : Int32} {rz : Int32} (h : mi_X8_depth I v1 v2 = some rz) : Met l yX8_depth (Cond.code yX8_depth cX8_depth 3 (some .int) :: mc_big) ({ frames := 1, cells := 0, slots := 0, locals := 21 } : Room) (va_Pc [.ref (w.2.2.1 144), .int v1, .int v2] (mc_B mc_k 152 w I R)) (mc_Q (some (.int rz)) (mc_B mc_k 152 w I R) (mc_A 152 w)) 0 0 (mc_A 152 w) := by
  refine Met.ofW (cc := cX8_depth) (maxL := 3) (ret := (some .int)) (by decide) rfl ?_
  intro p e s m args below meth c s₁ B hml hv
  obtain ⟨rfl, hP, K⟩ := hv
  have hown : s.vm.findClass RX8 = some m.cls := findClass_of_methodNamed B.named
  have C : CallFix p m c cX8_depth 3 s _ mc_big RX8 := ⟨B.exec, B.bytes, hml, hown, fun w hw => atoms_spec B.pre w (List.mem_cons_of_mem _ hw)⟩
  have hx := C.1
  have hb := C.2.1
  have hC := And.intro C.1 C.2.1
  have hr := B.returns
  have hlk := B.notSynchronized
  have hS : va_S (mc_A 152 w) s.heap s.heap [] := va_S.rf
  have hl := lv_entry ([.ref (w.2.2.1 144), .int v1, .int v2]) (n := 3) (Nat.le_of_ble_eq_true rfl)
  rw [lg_entry_eq]
  generalize (lg_sl ([.ref (w.2.2.1 144), .int v1, .int v2]) ++ List.replicate (3 - (lg_sl ([.ref (w.2.2.1 144), .int v1, .int v2])).length) Slot.unset).toArray = ls at hl ⊢
  have hl : lv_has ls 3 [(0, .ref (w.2.2.1 144)), (1, .int v1), (2, .int v2)] := hl
  unfold mi_X8_depth at h
  refine lv_iload_n hx hb dX8_depth_0 rfl (lv_at hl 1 rfl) ?_
  refine lv_if_lt (tgt := 21) hx hb dX8_depth_1 (by decide) (fun c1 => ?_) (fun c1 => ?_)
  · replace h := mc_it h c1
    refine lv_sipush (v := (-1002)) hx hb dX8_depth_21 (by decide) ?_
    cases h
    exact mt_i hC hr hlk K hP hS dX8_depth_24
  · replace h := mc_ie h c1
    refine lv_iload_n hx hb dX8_depth_4 rfl (lv_at hl 1 rfl) ?_
    refine lv_sipush (v := 999) hx hb dX8_depth_5 (by decide) ?_
    refine lv_icmp_gt (tgt := 21) hx hb dX8_depth_8 (by decide) (fun c2 => ?_) (fun c2 => ?_)
    · replace h := mc_it h c2
      refine lv_sipush (v := (-1002)) hx hb dX8_depth_21 (by decide) ?_
      cases h
      exact mt_i hC hr hlk K hP hS dX8_depth_24
    · replace h := mc_ie h c2
      refine lv_iload_n hx hb dX8_depth_11 rfl (lv_at hl 2 rfl) ?_
      refine lv_if_lt (tgt := 21) hx hb dX8_depth_12 (by decide) (fun c3 => ?_) (fun c3 => ?_)
      · replace h := mc_it h c3
        refine lv_sipush (v := (-1002)) hx hb dX8_depth_21 (by decide) ?_
        cases h
        exact mt_i hC hr hlk K hP hS dX8_depth_24
      · replace h := mc_ie h c3
        refine lv_iload_n hx hb dX8_depth_15 rfl (lv_at hl 2 rfl) ?_
        refine lv_bipush (v := 6) hx hb dX8_depth_16 (by decide) ?_
        refine lv_icmp_le (tgt := 25) hx hb dX8_depth_18 (by decide) (fun c4 => ?_) (fun c4 => ?_)
        · replace h := mc_it h c4
          refine lv_iload_n hx hb dX8_depth_25 rfl (lv_at hl 1 rfl) ?_
          refine lv_iload_n hx hb dX8_depth_26 rfl (lv_at hl 2 rfl) ?_
          obtain ⟨r5, e6, h⟩ := mc_ob_e h
          refine mg_Si (As := [.int v1, .int v2]) (rest := []) (ct_X8_depthAt l (w := w) (I := I) (R := R) e6) C K hP hS hl.1 ml_X8_198 wy_X8_depthAt wd_X8_depthAt rfl rfl rfl ⟨Nat.le_of_ble_eq_true rfl, Nat.le_of_ble_eq_true rfl⟩ (Nat.le_of_ble_eq_true rfl) ⟨Nat.zero_le _, Nat.zero_le _⟩ dX8_depth_27 (fun H locs hP hS => ?_)
          cases h
          exact mt_i hC hr hlk K hP hS dX8_depth_30
        · replace h := mc_ie h c4
          refine lv_sipush (v := (-1002)) hx hb dX8_depth_21 (by decide) ?_
          cases h
          exact mt_i hC hr hlk K hP hS dX8_depth_24
set_option maxHeartbeats 4000000 in
set_option maxRecDepth 100000 in
theorem ct_X8_secondsToShut (l : Launch) {w : mc_w} {I : Nat → Nat → Int32} {R : Nat → Nat → Option Nat} {F : Nat} {v1 : Int32} {Iz : Nat → Nat → Int32} {rz : Int32} (h : mi_X8_secondsToShut F I R v1 = some (Iz, rz)) : Met l yX8_secondsToShut (Cond.code yX8_secondsToShut cX8_secondsToShut 2 (some .int) :: mc_big) ({ frames := 6, cells := 0, slots := 0, locals := 135 } : Room) (va_Pc [.ref (w.2.2.1 144), .int v1] (mc_B mc_k 152 w I R)) (mc_Q (some (.int rz)) (mc_B mc_k 152 w Iz R) (mc_A 152 w)) 0 0 (mc_A 152 w) := by
  refine Met.ofW (cc := cX8_secondsToShut) (maxL := 2) (ret := (some .int)) (by decide) rfl ?_
  intro p e s m args below meth c s₁ B hml hv
  obtain ⟨rfl, hP, K⟩ := hv
  have hown : s.vm.findClass RX8 = some m.cls := findClass_of_methodNamed B.named
  have C : CallFix p m c cX8_secondsToShut 2 s _ mc_big RX8 := ⟨B.exec, B.bytes, hml, hown, fun w hw => atoms_spec B.pre w (List.mem_cons_of_mem _ hw)⟩
  have hx := C.1
  have hb := C.2.1
  have hC := And.intro C.1 C.2.1
  have hr := B.returns
  have hlk := B.notSynchronized
  have hS : va_S (mc_A 152 w) s.heap s.heap [] := va_S.rf
  have hl := lv_entry ([.ref (w.2.2.1 144), .int v1]) (n := 2) (Nat.le_of_ble_eq_true rfl)
  rw [lg_entry_eq]
  generalize (lg_sl ([.ref (w.2.2.1 144), .int v1]) ++ List.replicate (2 - (lg_sl ([.ref (w.2.2.1 144), .int v1])).length) Slot.unset).toArray = ls at hl ⊢
  have hl : lv_has ls 2 [(0, .ref (w.2.2.1 144)), (1, .int v1)] := hl
  unfold mi_X8_secondsToShut at h
  refine lv_aload_n hx hb dX8_secondsToShut_0 rfl (lv_at hl 0 rfl) ?_
  refine mf_X8_19 C K hP kf_144 dX8_secondsToShut_1 ?_
  refine lv_aload_n hx hb dX8_secondsToShut_4 rfl (lv_at hl 0 rfl) ?_
  refine mf_X8_10 C K hP kf_144 dX8_secondsToShut_5 ?_
  obtain ⟨I1, e2, h⟩ := mc_ob_e h
  refine mg_Vv (As := [.ref (w.2.2.1 0)]) (rest := []) (ct_X5_copyFrom l (w := w) (I := I) (R := R) kf_36 kf_0 e2) C K hP hS hl.1 kf_36 (by decide) rfl rfl ml_X8_46 wy_X5_copyFrom wd_X5_copyFrom rfl rfl rfl ⟨Nat.le_of_ble_eq_true rfl, Nat.le_of_ble_eq_true rfl⟩ (Nat.le_of_ble_eq_true rfl) ⟨Nat.zero_le _, Nat.zero_le _⟩ dX8_secondsToShut_8 (fun H locs hP hS => ?_)
  refine lv_aload_n hx hb dX8_secondsToShut_11 rfl (lv_at hl 0 rfl) ?_
  refine mf_X8_19 C K hP kf_144 dX8_secondsToShut_12 ?_
  refine lv_iload_n hx hb dX8_secondsToShut_15 rfl (lv_at hl 1 rfl) ?_
  obtain ⟨I3, r4, e5, h⟩ := mc_ob2_e h
  refine mg_Vi (As := [.int v1]) (rest := []) (ct_X5_runUntilShut l (w := w) (I := I1) (R := R) kf_36 e5) C K hP hS hl.1 kf_36 (by decide) rfl rfl ml_X8_243 wy_X5_runUntilShut wd_X5_runUntilShut rfl rfl rfl ⟨Nat.le_of_ble_eq_true rfl, Nat.le_of_ble_eq_true rfl⟩ (Nat.le_of_ble_eq_true rfl) ⟨Nat.zero_le _, Nat.zero_le _⟩ dX8_secondsToShut_16 (fun H locs hP hS => ?_)
  cases h
  exact mt_i hC hr hlk K hP hS dX8_secondsToShut_19
set_option maxHeartbeats 4000000 in
set_option maxRecDepth 100000 in
theorem ct_X8_reason (l : Launch) {w : mc_w} {I : Nat → Nat → Int32} {R : Nat → Nat → Option Nat} {F : Nat} {v1 : Int32} {Iz : Nat → Nat → Int32} {rz : Int32} (h : mi_X8_reason F I R v1 = some (Iz, rz)) : Met l yX8_reason (Cond.code yX8_reason cX8_reason 3 (some .int) :: mc_big) ({ frames := 7, cells := 0, slots := 0, locals := 156 } : Room) (va_Pc [.ref (w.2.2.1 144), .int v1] (mc_B mc_k 152 w I R)) (mc_Q (some (.int rz)) (mc_B mc_k 152 w Iz R) (mc_A 152 w)) 0 0 (mc_A 152 w) := by
  refine Met.ofW (cc := cX8_reason) (maxL := 3) (ret := (some .int)) (by decide) rfl ?_
  intro p e s m args below meth c s₁ B hml hv
  obtain ⟨rfl, hP, K⟩ := hv
  have hown : s.vm.findClass RX8 = some m.cls := findClass_of_methodNamed B.named
  have C : CallFix p m c cX8_reason 3 s _ mc_big RX8 := ⟨B.exec, B.bytes, hml, hown, fun w hw => atoms_spec B.pre w (List.mem_cons_of_mem _ hw)⟩
  have hx := C.1
  have hb := C.2.1
  have hC := And.intro C.1 C.2.1
  have hr := B.returns
  have hlk := B.notSynchronized
  have hS : va_S (mc_A 152 w) s.heap s.heap [] := va_S.rf
  have hl := lv_entry ([.ref (w.2.2.1 144), .int v1]) (n := 3) (Nat.le_of_ble_eq_true rfl)
  rw [lg_entry_eq]
  generalize (lg_sl ([.ref (w.2.2.1 144), .int v1]) ++ List.replicate (3 - (lg_sl ([.ref (w.2.2.1 144), .int v1])).length) Slot.unset).toArray = ls at hl ⊢
  have hl : lv_has ls 3 [(0, .ref (w.2.2.1 144)), (1, .int v1)] := hl
  unfold mi_X8_reason at h
  refine lv_aload_n hx hb dX8_reason_0 rfl (lv_at hl 0 rfl) ?_
  refine mf_X8_10 C K hP kf_144 dX8_reason_1 ?_
  refine lv_iload_n hx hb dX8_reason_4 rfl (lv_at hl 1 rfl) ?_
  obtain ⟨r1, e2, h⟩ := mc_ob_e h
  refine mg_Vr (As := [.int v1]) (rest := []) (ct_X5_bottleAt l (w := w) (I := I) (R := R) kf_0 e2) C K hP hS hl.1 kf_0 (by decide) rfl rfl ml_X8_151 wy_X5_bottleAt wd_X5_bottleAt rfl rfl rfl ⟨Nat.le_of_ble_eq_true rfl, Nat.le_of_ble_eq_true rfl⟩ (Nat.le_of_ble_eq_true rfl) ⟨Nat.zero_le _, Nat.zero_le _⟩ dX8_reason_5 (fun H locs hP tr1 hS => ?_)
  refine mv_astore_n (i := 2) (lv' := [(2, va_re w.2.2.1 r1), (0, .ref (w.2.2.1 144)), (1, .int v1)]) hC dX8_reason_8 rfl hl (by decide) rfl (fun ls hl => ?_)
  refine mv_aload_n hC dX8_reason_9 rfl (lv_at hl 0 rfl) ?_
  rcases r1 with _ | b3
  · replace h := mc_om_n h
    refine lv_ifnonnullN hx hb dX8_reason_10 ?_
    have hl : lv_has ls 3 [(2, va_re w.2.2.1 none), (0, .ref (w.2.2.1 144)), (1, .int v1)] := hl
    refine lv_sipush (v := (-1001)) hx hb dX8_reason_13 (by decide) ?_
    cases h
    exact mt_i hC hr hlk K hP hS dX8_reason_16
  · replace h := mc_om_s h
    have kb3 := tr1 b3 rfl
    refine lv_ifnonnull (tgt := 17) hx hb dX8_reason_10 (by decide) ?_
    have hl : lv_has ls 3 [(2, .ref (w.2.2.1 b3)), (0, .ref (w.2.2.1 144)), (1, .int v1)] := hl
    refine lv_aload_n hx hb dX8_reason_17 rfl (lv_at hl 0 rfl) ?_
    refine mf_X8_201 C K hP kb3 dX8_reason_18 ?_
    refine lv_if_eq (tgt := 26) hx hb dX8_reason_21 (by decide) (fun c4 => ?_) (fun c4 => ?_)
    · replace h := mc_it h c4
      refine lv_aload_n hx hb dX8_reason_26 rfl (lv_at hl 1 rfl) ?_
      refine mf_X8_10 C K hP kf_144 dX8_reason_27 ?_
      refine mf_X8_174 C K hP kf_0 dX8_reason_30 ?_
      refine lv_aload_n hx hb dX8_reason_33 rfl (lv_at hl 0 rfl) ?_
      refine mf_X8_206 C K hP kb3 dX8_reason_34 ?_
      refine mg_Vz (As := [.int (I b3 0)]) (rest := []) (ct_X1_isInWater l (w := w) (I := I) (R := R) (kk_5_1 kf_0) rfl) C K hP hS hl.1 (kk_5_1 kf_0) (by decide) rfl rfl ml_X8_209 wy_X1_isInWater wd_X1_isInWater rfl rfl rfl ⟨Nat.le_of_ble_eq_true rfl, Nat.le_of_ble_eq_true rfl⟩ (Nat.le_of_ble_eq_true rfl) ⟨Nat.zero_le _, Nat.zero_le _⟩ dX8_reason_37 (fun H locs hP z6 hS => ?_)
      refine lv_if_ne (tgt := 45) hx hb dX8_reason_40 (by decide) (fun c7 => ?_) (fun c7 => ?_)
      · replace h := mc_ie h c7
        refine lv_aload_n hx hb dX8_reason_45 rfl (lv_at hl 1 rfl) ?_
        refine mf_X8_10 C K hP kf_144 dX8_reason_46 ?_
        refine mf_X8_174 C K hP kf_0 dX8_reason_49 ?_
        refine mg_Vz (As := []) (rest := []) (ct_X1_isSticking l (w := w) (I := I) (R := R) (kk_5_1 kf_0) rfl) C K hP hS hl.1 (kk_5_1 kf_0) (by decide) rfl rfl ml_X8_212 wy_X1_isSticking wd_X1_isSticking rfl rfl rfl ⟨Nat.le_of_ble_eq_true rfl, Nat.le_of_ble_eq_true rfl⟩ (Nat.le_of_ble_eq_true rfl) ⟨Nat.zero_le _, Nat.zero_le _⟩ dX8_reason_52 (fun H locs hP z9 hS => ?_)
        refine lv_if_eq (tgt := 60) hx hb dX8_reason_55 (by decide) (fun c10 => ?_) (fun c10 => ?_)
        · replace h := mc_it h c10
          refine lv_aload_n hx hb dX8_reason_60 rfl (lv_at hl 1 rfl) ?_
          refine mf_X8_10 C K hP kf_144 dX8_reason_61 ?_
          refine mf_X8_162 C K hP kf_0 dX8_reason_64 ?_
          refine lv_aload_n hx hb dX8_reason_67 rfl (lv_at hl 0 rfl) ?_
          refine mf_X8_206 C K hP kb3 dX8_reason_68 ?_
          obtain ⟨r11, e12, h⟩ := mc_ob_e h
          refine mg_Vz (As := [.int (I b3 0)]) (rest := []) (ct_X4_isAnyAbove l (w := w) (I := I) (R := R) (kk_5_5 kf_0) e12) C K hP hS hl.1 (kk_5_5 kf_0) (by decide) rfl rfl ml_X8_216 wy_X4_isAnyAbove wd_X4_isAnyAbove rfl rfl rfl ⟨Nat.le_of_ble_eq_true rfl, Nat.le_of_ble_eq_true rfl⟩ (Nat.le_of_ble_eq_true rfl) ⟨Nat.zero_le _, Nat.zero_le _⟩ dX8_reason_71 (fun H locs hP z13 hS => ?_)
          refine lv_if_ne (tgt := 79) hx hb dX8_reason_74 (by decide) (fun c14 => ?_) (fun c14 => ?_)
          · replace h := mc_ie h c14
            refine lv_aload_n hx hb dX8_reason_79 rfl (lv_at hl 1 rfl) ?_
            refine lv_iload_n hx hb dX8_reason_80 rfl (lv_at hl 2 rfl) ?_
            obtain ⟨I15, r16, e17, h⟩ := mc_ob2_e h
            refine mg_Vi (As := [.int v1]) (rest := []) (ct_X8_secondsToShut l (w := w) (I := I) (R := R) e17) C K hP hS hl.1 kf_144 (by decide) rfl rfl ml_X8_219 wy_X8_secondsToShut wd_X8_secondsToShut rfl rfl rfl ⟨Nat.le_of_ble_eq_true rfl, Nat.le_of_ble_eq_true rfl⟩ (Nat.le_of_ble_eq_true rfl) ⟨Nat.zero_le _, Nat.zero_le _⟩ dX8_reason_81 (fun H locs hP hS => ?_)
            refine lv_sipush (v := (-1005)) hx hb dX8_reason_84 (by decide) ?_
            refine lv_icmp_ne (tgt := 94) hx hb dX8_reason_87 (by decide) (fun c18 => ?_) (fun c18 => ?_)
            · replace h := mc_ie h c18
              refine lv_iconst (v := 0) hx hb dX8_reason_94 (by decide) ?_
              cases h
              exact mt_i hC hr hlk K hP hS dX8_reason_95
            · replace h := mc_it h c18
              refine lv_iconst (v := 5) hx hb dX8_reason_90 (by decide) ?_
              refine lv_goto (tgt := 95) hx hb dX8_reason_91 (by decide) ?_
              cases h
              exact mt_i hC hr hlk K hP hS dX8_reason_95
          · replace h := mc_it h c14
            refine lv_iconst (v := 4) hx hb dX8_reason_77 (by decide) ?_
            cases h
            exact mt_i hC hr hlk K hP hS dX8_reason_78
        · replace h := mc_ie h c10
          refine lv_iconst (v := 3) hx hb dX8_reason_58 (by decide) ?_
          cases h
          exact mt_i hC hr hlk K hP hS dX8_reason_59
      · replace h := mc_it h c7
        refine lv_iconst (v := 2) hx hb dX8_reason_43 (by decide) ?_
        cases h
        exact mt_i hC hr hlk K hP hS dX8_reason_44
    · replace h := mc_ie h c4
      refine lv_iconst (v := 1) hx hb dX8_reason_24 (by decide) ?_
      cases h
      exact mt_i hC hr hlk K hP hS dX8_reason_25
set_option maxHeartbeats 4000000 in
set_option maxRecDepth 100000 in
theorem ct_X8_shutIn (l : Launch) {w : mc_w} {I : Nat → Nat → Int32} {R : Nat → Nat → Option Nat} {F : Nat} {v1 : Int32} {Iz : Nat → Nat → Int32} {rz : Int32} (h : mi_X8_shutIn F I R v1 = some (Iz, rz)) : Met l yX8_shutIn (Cond.code yX8_shutIn cX8_shutIn 3 (some .int) :: mc_big) ({ frames := 7, cells := 0, slots := 0, locals := 156 } : Room) (va_Pc [.ref (w.2.2.1 144), .int v1] (mc_B mc_k 152 w I R)) (mc_Q (some (.int rz)) (mc_B mc_k 152 w Iz R) (mc_A 152 w)) 0 0 (mc_A 152 w) := by
  refine Met.ofW (cc := cX8_shutIn) (maxL := 3) (ret := (some .int)) (by decide) rfl ?_
  intro p e s m args below meth c s₁ B hml hv
  obtain ⟨rfl, hP, K⟩ := hv
  have hown : s.vm.findClass RX8 = some m.cls := findClass_of_methodNamed B.named
  have C : CallFix p m c cX8_shutIn 3 s _ mc_big RX8 := ⟨B.exec, B.bytes, hml, hown, fun w hw => atoms_spec B.pre w (List.mem_cons_of_mem _ hw)⟩
  have hx := C.1
  have hb := C.2.1
  have hC := And.intro C.1 C.2.1
  have hr := B.returns
  have hlk := B.notSynchronized
  have hS : va_S (mc_A 152 w) s.heap s.heap [] := va_S.rf
  have hl := lv_entry ([.ref (w.2.2.1 144), .int v1]) (n := 3) (Nat.le_of_ble_eq_true rfl)
  rw [lg_entry_eq]
  generalize (lg_sl ([.ref (w.2.2.1 144), .int v1]) ++ List.replicate (3 - (lg_sl ([.ref (w.2.2.1 144), .int v1])).length) Slot.unset).toArray = ls at hl ⊢
  have hl : lv_has ls 3 [(0, .ref (w.2.2.1 144)), (1, .int v1)] := hl
  unfold mi_X8_shutIn at h
  refine lv_aload_n hx hb dX8_shutIn_0 rfl (lv_at hl 0 rfl) ?_
  refine mf_X8_10 C K hP kf_144 dX8_shutIn_1 ?_
  refine lv_iload_n hx hb dX8_shutIn_4 rfl (lv_at hl 1 rfl) ?_
  obtain ⟨r1, e2, h⟩ := mc_ob_e h
  refine mg_Vr (As := [.int v1]) (rest := []) (ct_X5_bottleAt l (w := w) (I := I) (R := R) kf_0 e2) C K hP hS hl.1 kf_0 (by decide) rfl rfl ml_X8_151 wy_X5_bottleAt wd_X5_bottleAt rfl rfl rfl ⟨Nat.le_of_ble_eq_true rfl, Nat.le_of_ble_eq_true rfl⟩ (Nat.le_of_ble_eq_true rfl) ⟨Nat.zero_le _, Nat.zero_le _⟩ dX8_shutIn_5 (fun H locs hP tr1 hS => ?_)
  refine mv_astore_n (i := 2) (lv' := [(2, va_re w.2.2.1 r1), (0, .ref (w.2.2.1 144)), (1, .int v1)]) hC dX8_shutIn_8 rfl hl (by decide) rfl (fun ls hl => ?_)
  refine mv_aload_n hC dX8_shutIn_9 rfl (lv_at hl 0 rfl) ?_
  rcases r1 with _ | b3
  · replace h := mc_om_n h
    refine lv_ifnonnullN hx hb dX8_shutIn_10 ?_
    have hl : lv_has ls 3 [(2, va_re w.2.2.1 none), (0, .ref (w.2.2.1 144)), (1, .int v1)] := hl
    refine lv_sipush (v := (-1001)) hx hb dX8_shutIn_13 (by decide) ?_
    cases h
    exact mt_i hC hr hlk K hP hS dX8_shutIn_16
  · replace h := mc_om_s h
    have kb3 := tr1 b3 rfl
    refine lv_ifnonnull (tgt := 17) hx hb dX8_shutIn_10 (by decide) ?_
    have hl : lv_has ls 3 [(2, .ref (w.2.2.1 b3)), (0, .ref (w.2.2.1 144)), (1, .int v1)] := hl
    refine lv_aload_n hx hb dX8_shutIn_17 rfl (lv_at hl 0 rfl) ?_
    refine mf_X8_201 C K hP kb3 dX8_shutIn_18 ?_
    refine lv_if_eq (tgt := 30) hx hb dX8_shutIn_21 (by decide) (fun c4 => ?_) (fun c4 => ?_)
    · replace h := mc_it h c4
      refine lv_aload_n hx hb dX8_shutIn_30 rfl (lv_at hl 1 rfl) ?_
      refine lv_iload_n hx hb dX8_shutIn_31 rfl (lv_at hl 2 rfl) ?_
      obtain ⟨I5, r6, e7, h⟩ := mc_ob2_e h
      refine mg_Vi (As := [.int v1]) (rest := []) (ct_X8_secondsToShut l (w := w) (I := I) (R := R) e7) C K hP hS hl.1 kf_144 (by decide) rfl rfl ml_X8_219 wy_X8_secondsToShut wd_X8_secondsToShut rfl rfl rfl ⟨Nat.le_of_ble_eq_true rfl, Nat.le_of_ble_eq_true rfl⟩ (Nat.le_of_ble_eq_true rfl) ⟨Nat.zero_le _, Nat.zero_le _⟩ dX8_shutIn_32 (fun H locs hP hS => ?_)
      cases h
      exact mt_i hC hr hlk K hP hS dX8_shutIn_35
    · replace h := mc_ie h c4
      refine lv_sipush (v := (-1005)) hx hb dX8_shutIn_24 (by decide) ?_
      refine lv_goto (tgt := 35) hx hb dX8_shutIn_27 (by decide) ?_
      cases h
      exact mt_i hC hr hlk K hP hS dX8_shutIn_35
set_option maxHeartbeats 4000000 in
set_option maxRecDepth 100000 in
theorem ct_X8_quietIn (l : Launch) {w : mc_w} {I : Nat → Nat → Int32} {R : Nat → Nat → Option Nat} {F : Nat} {Iz : Nat → Nat → Int32} {rz : Int32} (h : mi_X8_quietIn F I R = some (Iz, rz)) : Met l yX8_quietIn (Cond.code yX8_quietIn cX8_quietIn 1 (some .int) :: mc_big) ({ frames := 6, cells := 0, slots := 0, locals := 133 } : Room) (va_Pc [.ref (w.2.2.1 144)] (mc_B mc_k 152 w I R)) (mc_Q (some (.int rz)) (mc_B mc_k 152 w Iz R) (mc_A 152 w)) 0 0 (mc_A 152 w) := by
  refine Met.ofW (cc := cX8_quietIn) (maxL := 1) (ret := (some .int)) (by decide) rfl ?_
  intro p e s m args below meth c s₁ B hml hv
  obtain ⟨rfl, hP, K⟩ := hv
  have hown : s.vm.findClass RX8 = some m.cls := findClass_of_methodNamed B.named
  have C : CallFix p m c cX8_quietIn 1 s _ mc_big RX8 := ⟨B.exec, B.bytes, hml, hown, fun w hw => atoms_spec B.pre w (List.mem_cons_of_mem _ hw)⟩
  have hx := C.1
  have hb := C.2.1
  have hC := And.intro C.1 C.2.1
  have hr := B.returns
  have hlk := B.notSynchronized
  have hS : va_S (mc_A 152 w) s.heap s.heap [] := va_S.rf
  have hl := lv_entry ([.ref (w.2.2.1 144)]) (n := 1) (Nat.le_of_ble_eq_true rfl)
  rw [lg_entry_eq]
  generalize (lg_sl ([.ref (w.2.2.1 144)]) ++ List.replicate (1 - (lg_sl ([.ref (w.2.2.1 144)])).length) Slot.unset).toArray = ls at hl ⊢
  have hl : lv_has ls 1 [(0, .ref (w.2.2.1 144))] := hl
  unfold mi_X8_quietIn at h
  refine lv_aload_n hx hb dX8_quietIn_0 rfl (lv_at hl 0 rfl) ?_
  refine mf_X8_10 C K hP kf_144 dX8_quietIn_1 ?_
  refine mf_X8_162 C K hP kf_0 dX8_quietIn_4 ?_
  refine mf_X8_166 C K hP (kk_5_5 kf_0) dX8_quietIn_7 ?_
  refine lv_if_ne (tgt := 15) hx hb dX8_quietIn_10 (by decide) (fun c1 => ?_) (fun c1 => ?_)
  · replace h := mc_ie h c1
    refine lv_aload_n hx hb dX8_quietIn_15 rfl (lv_at hl 0 rfl) ?_
    refine mf_X8_10 C K hP kf_144 dX8_quietIn_16 ?_
    refine mf_X8_174 C K hP kf_0 dX8_quietIn_19 ?_
    refine mg_Vz (As := []) (rest := []) (ct_X1_isSticking l (w := w) (I := I) (R := R) (kk_5_1 kf_0) rfl) C K hP hS hl.1 (kk_5_1 kf_0) (by decide) rfl rfl ml_X8_212 wy_X1_isSticking wd_X1_isSticking rfl rfl rfl ⟨Nat.le_of_ble_eq_true rfl, Nat.le_of_ble_eq_true rfl⟩ (Nat.le_of_ble_eq_true rfl) ⟨Nat.zero_le _, Nat.zero_le _⟩ dX8_quietIn_22 (fun H locs hP z3 hS => ?_)
    refine lv_if_eq (tgt := 32) hx hb dX8_quietIn_25 (by decide) (fun c4 => ?_) (fun c4 => ?_)
    · replace h := mc_it h c4
      refine lv_aload_n hx hb dX8_quietIn_32 rfl (lv_at hl 0 rfl) ?_
      refine mf_X8_19 C K hP kf_144 dX8_quietIn_33 ?_
      refine lv_aload_n hx hb dX8_quietIn_36 rfl (lv_at hl 0 rfl) ?_
      refine mf_X8_10 C K hP kf_144 dX8_quietIn_37 ?_
      obtain ⟨I5, e6, h⟩ := mc_ob_e h
      refine mg_Vv (As := [.ref (w.2.2.1 0)]) (rest := []) (ct_X5_copyFrom l (w := w) (I := I) (R := R) kf_36 kf_0 e6) C K hP hS hl.1 kf_36 (by decide) rfl rfl ml_X8_46 wy_X5_copyFrom wd_X5_copyFrom rfl rfl rfl ⟨Nat.le_of_ble_eq_true rfl, Nat.le_of_ble_eq_true rfl⟩ (Nat.le_of_ble_eq_true rfl) ⟨Nat.zero_le _, Nat.zero_le _⟩ dX8_quietIn_40 (fun H locs hP hS => ?_)
      refine lv_aload_n hx hb dX8_quietIn_43 rfl (lv_at hl 0 rfl) ?_
      refine mf_X8_19 C K hP kf_144 dX8_quietIn_44 ?_
      obtain ⟨I7, r8, e9, h⟩ := mc_ob2_e h
      refine mg_Vi (As := []) (rest := []) (ct_X5_runUntilQuiet l (w := w) (I := I5) (R := R) kf_36 e9) C K hP hS hl.1 kf_36 (by decide) rfl rfl ml_X8_222 wy_X5_runUntilQuiet wd_X5_runUntilQuiet rfl rfl rfl ⟨Nat.le_of_ble_eq_true rfl, Nat.le_of_ble_eq_true rfl⟩ (Nat.le_of_ble_eq_true rfl) ⟨Nat.zero_le _, Nat.zero_le _⟩ dX8_quietIn_47 (fun H locs hP hS => ?_)
      cases h
      exact mt_i hC hr hlk K hP hS dX8_quietIn_50
    · replace h := mc_ie h c4
      refine lv_sipush (v := (-1005)) hx hb dX8_quietIn_28 (by decide) ?_
      cases h
      exact mt_i hC hr hlk K hP hS dX8_quietIn_31
  · replace h := mc_it h c1
    refine lv_iconst (v := 0) hx hb dX8_quietIn_13 (by decide) ?_
    cases h
    exact mt_i hC hr hlk K hP hS dX8_quietIn_14
set_option maxHeartbeats 4000000 in
set_option maxRecDepth 100000 in
theorem bk_X8_worst_B8 {p : Program} {l : Launch} {e : Env} {s : State} {m : MethodId} {args : Array Value} {below : List Frame} {meth : Method} {c : Code} (C : CallFix p m c cX8_worst 5 s args mc_big RX8) (hr : meth.sig.returnType = (some .int)) (hlk : meth.locks = false) {w : mc_w} (K : mc_K mc_k 152 w s) {I : Nat → Nat → Int32} {R : Nat → Nat → Option Nat} {F : Nat} {rz : Int32} {k8 : (Nat → Nat → Int32) → (Nat → Nat → Option Nat) → Int32 → Int32 → Int32 → Option (Int32)} (hk8 : ∀ (v1 : Int32) (v2 : Int32) (v3 : Int32), k8 I R v1 v2 v3 = some rz → ∀ {H : Heap} {locs : List Loc} {ls : Array Slot}, mc_P mc_k 152 w I R H → va_S (mc_A 152 w) s.heap H locs → lv_has ls 5 [(0, .ref (w.2.2.1 144)), (1, .int v1), (2, .int v2), (3, .int v3)] → W p l e ({ frames := 2, cells := 0, slots := 0, locals := 41 } : Room) s m args below meth c H locs 0 0 (MQ below (mc_Q (some (.int rz)) (mc_B mc_k 152 w I R) (mc_A 152 w)) args s 0 0 (mc_A 152 w)) (F0 m 8 ls [])) : ∀ (v1 : Int32) (v2 : Int32) (v3 : Int32), mi_X8_worst_B8 k8 F I R v1 v2 v3 = some rz → ∀ {H : Heap} {locs : List Loc} {ls : Array Slot}, mc_P mc_k 152 w I R H → va_S (mc_A 152 w) s.heap H locs → lv_has ls 5 [(0, .ref (w.2.2.1 144)), (1, .int v1), (2, .int v2), (3, .int v3)] → W p l e ({ frames := 2, cells := 0, slots := 0, locals := 41 } : Room) s m args below meth c H locs 0 0 (MQ below (mc_Q (some (.int rz)) (mc_B mc_k 152 w I R) (mc_A 152 w)) args s 0 0 (mc_A 152 w)) (F0 m 8 ls []) := by
  intro v1 v2 v3 h  H locs ls hP hS hl
  have hx := C.1
  have hb := C.2.1
  have hC := And.intro C.1 C.2.1
  unfold mi_X8_worst_B8 at h
  refine lv_iload_n hx hb dX8_worst_8 rfl (lv_at hl 3 rfl) ?_
  refine lv_aload_n hx hb dX8_worst_9 rfl (lv_at hl 0 rfl) ?_
  refine mf_X8_10 C K hP kf_144 dX8_worst_10 ?_
  refine mf_X8_148 C K hP kf_0 dX8_worst_13 ?_
  refine lv_icmp_ge (tgt := 65) hx hb dX8_worst_16 (by decide) (fun c1 => ?_) (fun c1 => ?_)
  · replace h := mc_it h c1
    refine lv_iload_n hx hb dX8_worst_65 rfl (lv_at hl 1 rfl) ?_
    cases h
    exact mt_i hC hr hlk K hP hS dX8_worst_66
  · replace h := mc_ie h c1
    refine lv_aload_n hx hb dX8_worst_19 rfl (lv_at hl 0 rfl) ?_
    refine mf_X8_10 C K hP kf_144 dX8_worst_20 ?_
    refine lv_iload_n hx hb dX8_worst_23 rfl (lv_at hl 3 rfl) ?_
    obtain ⟨r2, e3, h⟩ := mc_ob_e h
    refine mg_Vr (As := [.int v3]) (rest := []) (ct_X5_bottleAt l (w := w) (I := I) (R := R) kf_0 e3) C K hP hS hl.1 kf_0 (by decide) rfl rfl ml_X8_151 wy_X5_bottleAt wd_X5_bottleAt rfl rfl rfl ⟨Nat.le_of_ble_eq_true rfl, Nat.le_of_ble_eq_true rfl⟩ (Nat.le_of_ble_eq_true rfl) ⟨Nat.zero_le _, Nat.zero_le _⟩ dX8_worst_24 (fun H locs hP tr2 hS => ?_)
    refine mv_astore (i := 4) (lv' := [(4, va_re w.2.2.1 r2), (0, .ref (w.2.2.1 144)), (1, .int v1), (2, .int v2), (3, .int v3)]) hC dX8_worst_27 hl (by decide) rfl (fun ls hl => ?_)
    refine mv_aload hC dX8_worst_29 (lv_at hl 0 rfl) ?_
    rcases r2 with _ | b4
    · replace h := mc_om_n h
      refine lv_ifnullN (tgt := 59) hx hb dX8_worst_31 (by decide) ?_
      have hl : lv_has ls 5 [(4, va_re w.2.2.1 none), (0, .ref (w.2.2.1 144)), (1, .int v1), (2, .int v2), (3, .int v3)] := hl
      obtain ⟨x5, ex5, h⟩ := mc_bn_e h
      refine lv_iinc (v := x5) (lv' := [(3, .int x5), (4, va_re w.2.2.1 none), (0, .ref (w.2.2.1 144)), (1, .int v1), (2, .int v2)]) hx hb dX8_worst_59 hl (k := 4) rfl (by rw [ex5]; rfl) (by decide) rfl (fun ls hl => ?_)
      refine lv_goto (tgt := 8) hx hb dX8_worst_62 (by decide) ?_
      exact hk8 v1 v2 x5 h  hP hS (lv_sub hl [2, 3, 4, 0] rfl)
    · replace h := mc_om_s h
      have kb4 := tr2 b4 rfl
      refine lv_ifnull hx hb dX8_worst_31 ?_
      have hl : lv_has ls 5 [(4, .ref (w.2.2.1 b4)), (0, .ref (w.2.2.1 144)), (1, .int v1), (2, .int v2), (3, .int v3)] := hl
      refine lv_aload hx hb dX8_worst_34 (lv_at hl 0 rfl) ?_
      refine mf_X8_201 C K hP kb4 dX8_worst_36 ?_
      refine lv_if_eq (tgt := 59) hx hb dX8_worst_39 (by decide) (fun c6 => ?_) (fun c6 => ?_)
      · replace h := mc_it h c6
        obtain ⟨x7, ex7, h⟩ := mc_bn_e h
        refine lv_iinc (v := x7) (lv' := [(3, .int x7), (4, .ref (w.2.2.1 b4)), (0, .ref (w.2.2.1 144)), (1, .int v1), (2, .int v2)]) hx hb dX8_worst_59 hl (k := 4) rfl (by rw [ex7]; rfl) (by decide) rfl (fun ls hl => ?_)
        refine lv_goto (tgt := 8) hx hb dX8_worst_62 (by decide) ?_
        exact hk8 v1 v2 x7 h  hP hS (lv_sub hl [2, 3, 4, 0] rfl)
      · replace h := mc_ie h c6
        refine lv_aload hx hb dX8_worst_42 (lv_at hl 0 rfl) ?_
        refine mg_Vi (As := []) (rest := []) (ct_X0_difference l (w := w) (I := I) (R := R) kb4 rfl) C K hP hS hl.1 kb4 (by decide) rfl rfl ml_X8_225 wy_X0_difference wd_X0_difference rfl rfl rfl ⟨Nat.le_of_ble_eq_true rfl, Nat.le_of_ble_eq_true rfl⟩ (Nat.le_of_ble_eq_true rfl) ⟨Nat.zero_le _, Nat.zero_le _⟩ dX8_worst_44 (fun H locs hP hS => ?_)
        refine lv_iload_n hx hb dX8_worst_47 rfl (lv_at hl 3 rfl) ?_
        refine lv_icmp_le (tgt := 59) hx hb dX8_worst_48 (by decide) (fun c9 => ?_) (fun c9 => ?_)
        · replace h := mc_it h c9
          obtain ⟨x10, ex10, h⟩ := mc_bn_e h
          refine lv_iinc (v := x10) (lv' := [(3, .int x10), (4, .ref (w.2.2.1 b4)), (0, .ref (w.2.2.1 144)), (1, .int v1), (2, .int v2)]) hx hb dX8_worst_59 hl (k := 4) rfl (by rw [ex10]; rfl) (by decide) rfl (fun ls hl => ?_)
          refine lv_goto (tgt := 8) hx hb dX8_worst_62 (by decide) ?_
          exact hk8 v1 v2 x10 h  hP hS (lv_sub hl [2, 3, 4, 0] rfl)
        · replace h := mc_ie h c9
          refine lv_iload_n hx hb dX8_worst_51 rfl (lv_at hl 4 rfl) ?_
          refine lv_istore_n (i := 1) (lv' := [(1, .int v3), (4, .ref (w.2.2.1 b4)), (0, .ref (w.2.2.1 144)), (2, .int v2), (3, .int v3)]) hx hb dX8_worst_52 rfl hl (by decide) rfl (fun ls hl => ?_)
          refine lv_aload hx hb dX8_worst_53 (lv_at hl 1 rfl) ?_
          refine mg_Vi (As := []) (rest := []) (ct_X0_difference l (w := w) (I := I) (R := R) kb4 rfl) C K hP hS hl.1 kb4 (by decide) rfl rfl ml_X8_225 wy_X0_difference wd_X0_difference rfl rfl rfl ⟨Nat.le_of_ble_eq_true rfl, Nat.le_of_ble_eq_true rfl⟩ (Nat.le_of_ble_eq_true rfl) ⟨Nat.zero_le _, Nat.zero_le _⟩ dX8_worst_55 (fun H locs hP hS => ?_)
          obtain ⟨x12, ex12, h⟩ := mc_bn_e h
          refine mv_top ex12 ?_
          refine lv_istore_n (i := 2) (lv' := [(2, .int x12), (1, .int v3), (4, .ref (w.2.2.1 b4)), (0, .ref (w.2.2.1 144)), (3, .int v3)]) hx hb dX8_worst_58 rfl hl (by decide) rfl (fun ls hl => ?_)
          obtain ⟨x13, ex13, h⟩ := mc_bn_e h
          refine lv_iinc (v := x13) (lv' := [(3, .int x13), (2, .int x12), (1, .int v3), (4, .ref (w.2.2.1 b4)), (0, .ref (w.2.2.1 144))]) hx hb dX8_worst_59 hl (k := 4) rfl (by rw [ex13]; rfl) (by decide) rfl (fun ls hl => ?_)
          refine lv_goto (tgt := 8) hx hb dX8_worst_62 (by decide) ?_
          exact hk8 v3 x12 x13 h  hP hS (lv_sub hl [4, 2, 1, 0] rfl)
theorem bk_X8_worst_L8 {p : Program} {l : Launch} {e : Env} {s : State} {m : MethodId} {args : Array Value} {below : List Frame} {meth : Method} {c : Code} (C : CallFix p m c cX8_worst 5 s args mc_big RX8) (hr : meth.sig.returnType = (some .int)) (hlk : meth.locks = false) {w : mc_w} (K : mc_K mc_k 152 w s) {I : Nat → Nat → Int32} {R : Nat → Nat → Option Nat} {F : Nat} {rz : Int32} : ∀ n : Nat, ∀ (v1 : Int32) (v2 : Int32) (v3 : Int32), mi_X8_worst_L8 F n I R v1 v2 v3 = some rz → ∀ {H : Heap} {locs : List Loc} {ls : Array Slot}, mc_P mc_k 152 w I R H → va_S (mc_A 152 w) s.heap H locs → lv_has ls 5 [(0, .ref (w.2.2.1 144)), (1, .int v1), (2, .int v2), (3, .int v3)] → W p l e ({ frames := 2, cells := 0, slots := 0, locals := 41 } : Room) s m args below meth c H locs 0 0 (MQ below (mc_Q (some (.int rz)) (mc_B mc_k 152 w I R) (mc_A 152 w)) args s 0 0 (mc_A 152 w)) (F0 m 8 ls []) := by
  intro n
  induction n with
  | zero =>
    intro v1 v2 v3 h
    cases h
  | succ n ih =>
    intro v1 v2 v3 h
    exact bk_X8_worst_B8 C hr hlk K  ih v1 v2 v3 h
set_option maxHeartbeats 4000000 in
set_option maxRecDepth 100000 in
theorem ct_X8_worst (l : Launch) {w : mc_w} {I : Nat → Nat → Int32} {R : Nat → Nat → Option Nat} {F : Nat} {rz : Int32} (h : mi_X8_worst F I R = some rz) : Met l yX8_worst (Cond.code yX8_worst cX8_worst 5 (some .int) :: mc_big) ({ frames := 2, cells := 0, slots := 0, locals := 41 } : Room) (va_Pc [.ref (w.2.2.1 144)] (mc_B mc_k 152 w I R)) (mc_Q (some (.int rz)) (mc_B mc_k 152 w I R) (mc_A 152 w)) 0 0 (mc_A 152 w) := by
  refine Met.ofW (cc := cX8_worst) (maxL := 5) (ret := (some .int)) (by decide) rfl ?_
  intro p e s m args below meth c s₁ B hml hv
  obtain ⟨rfl, hP, K⟩ := hv
  have hown : s.vm.findClass RX8 = some m.cls := findClass_of_methodNamed B.named
  have C : CallFix p m c cX8_worst 5 s _ mc_big RX8 := ⟨B.exec, B.bytes, hml, hown, fun w hw => atoms_spec B.pre w (List.mem_cons_of_mem _ hw)⟩
  have hx := C.1
  have hb := C.2.1
  have hC := And.intro C.1 C.2.1
  have hr := B.returns
  have hlk := B.notSynchronized
  have hS : va_S (mc_A 152 w) s.heap s.heap [] := va_S.rf
  have hl := lv_entry ([.ref (w.2.2.1 144)]) (n := 5) (Nat.le_of_ble_eq_true rfl)
  rw [lg_entry_eq]
  generalize (lg_sl ([.ref (w.2.2.1 144)]) ++ List.replicate (5 - (lg_sl ([.ref (w.2.2.1 144)])).length) Slot.unset).toArray = ls at hl ⊢
  have hl : lv_has ls 5 [(0, .ref (w.2.2.1 144))] := hl
  unfold mi_X8_worst at h
  refine lv_sipush (v := (-1005)) hx hb dX8_worst_0 (by decide) ?_
  refine lv_istore_n (i := 1) (lv' := [(1, .int (-1005)), (0, .ref (w.2.2.1 144))]) hx hb dX8_worst_3 rfl hl (by decide) rfl (fun ls hl => ?_)
  refine lv_iconst (v := (-1)) hx hb dX8_worst_4 (by decide) ?_
  refine lv_istore_n (i := 2) (lv' := [(2, .int (-1)), (1, .int (-1005)), (0, .ref (w.2.2.1 144))]) hx hb dX8_worst_5 rfl hl (by decide) rfl (fun ls hl => ?_)
  refine lv_iconst (v := 0) hx hb dX8_worst_6 (by decide) ?_
  refine lv_istore_n (i := 3) (lv' := [(3, .int 0), (2, .int (-1)), (1, .int (-1005)), (0, .ref (w.2.2.1 144))]) hx hb dX8_worst_7 rfl hl (by decide) rfl (fun ls hl => ?_)
  exact bk_X8_worst_L8 C hr hlk K  F (-1005) (-1) 0 h  hP hS (lv_sub hl [3, 2, 1, 0] rfl)
set_option maxHeartbeats 4000000 in
set_option maxRecDepth 100000 in
theorem ct_X8_countOnCable (l : Launch) {w : mc_w} {I : Nat → Nat → Int32} {R : Nat → Nat → Option Nat} {F : Nat} {v1 : Int32} {rz : Int32} (h : mi_X8_countOnCable F I R v1 = some rz) : Met l yX8_countOnCable (Cond.code yX8_countOnCable cX8_countOnCable 2 (some .int) :: mc_big) ({ frames := 4, cells := 0, slots := 0, locals := 85 } : Room) (va_Pc [.ref (w.2.2.1 144), .int v1] (mc_B mc_k 152 w I R)) (mc_Q (some (.int rz)) (mc_B mc_k 152 w I R) (mc_A 152 w)) 0 0 (mc_A 152 w) := by
  refine Met.ofW (cc := cX8_countOnCable) (maxL := 2) (ret := (some .int)) (by decide) rfl ?_
  intro p e s m args below meth c s₁ B hml hv
  obtain ⟨rfl, hP, K⟩ := hv
  have hown : s.vm.findClass RX8 = some m.cls := findClass_of_methodNamed B.named
  have C : CallFix p m c cX8_countOnCable 2 s _ mc_big RX8 := ⟨B.exec, B.bytes, hml, hown, fun w hw => atoms_spec B.pre w (List.mem_cons_of_mem _ hw)⟩
  have hx := C.1
  have hb := C.2.1
  have hC := And.intro C.1 C.2.1
  have hr := B.returns
  have hlk := B.notSynchronized
  have hS : va_S (mc_A 152 w) s.heap s.heap [] := va_S.rf
  have hl := lv_entry ([.ref (w.2.2.1 144), .int v1]) (n := 2) (Nat.le_of_ble_eq_true rfl)
  rw [lg_entry_eq]
  generalize (lg_sl ([.ref (w.2.2.1 144), .int v1]) ++ List.replicate (2 - (lg_sl ([.ref (w.2.2.1 144), .int v1])).length) Slot.unset).toArray = ls at hl ⊢
  have hl : lv_has ls 2 [(0, .ref (w.2.2.1 144)), (1, .int v1)] := hl
  unfold mi_X8_countOnCable at h
  refine lv_iload_n hx hb dX8_countOnCable_0 rfl (lv_at hl 1 rfl) ?_
  by_cases c1 : v1 = 0
  · replace h := mc_it h c1
    refine lv_tableIn (off := 47) (tgt := 48) hx hb dX8_countOnCable_1 (by rw [c1]; decide) (by rw [c1]; decide) (by rw [c1]; decide) (by decide) ?_
    refine lv_aload_n hx hb dX8_countOnCable_48 rfl (lv_at hl 0 rfl) ?_
    refine mf_X8_10 C K hP kf_144 dX8_countOnCable_49 ?_
    refine mf_X8_280 C K hP kf_0 dX8_countOnCable_52 ?_
    cases h
    exact mt_i hC hr hlk K hP hS dX8_countOnCable_55
  replace h := mc_ie h c1
  by_cases c2 : v1 = 1
  · replace h := mc_it h c2
    refine lv_tableIn (off := 55) (tgt := 56) hx hb dX8_countOnCable_1 (by rw [c2]; decide) (by rw [c2]; decide) (by rw [c2]; decide) (by decide) ?_
    refine lv_aload_n hx hb dX8_countOnCable_56 rfl (lv_at hl 0 rfl) ?_
    refine mf_X8_10 C K hP kf_144 dX8_countOnCable_57 ?_
    refine mf_X8_174 C K hP kf_0 dX8_countOnCable_60 ?_
    refine mf_X8_283 C K hP (kk_5_1 kf_0) dX8_countOnCable_63 ?_
    cases h
    exact mt_i hC hr hlk K hP hS dX8_countOnCable_66
  replace h := mc_ie h c2
  by_cases c3 : v1 = 2
  · replace h := mc_it h c3
    refine lv_tableIn (off := 66) (tgt := 67) hx hb dX8_countOnCable_1 (by rw [c3]; decide) (by rw [c3]; decide) (by rw [c3]; decide) (by decide) ?_
    refine lv_aload_n hx hb dX8_countOnCable_67 rfl (lv_at hl 0 rfl) ?_
    refine mf_X8_10 C K hP kf_144 dX8_countOnCable_68 ?_
    refine mf_X8_174 C K hP kf_0 dX8_countOnCable_71 ?_
    refine mf_X8_286 C K hP (kk_5_1 kf_0) dX8_countOnCable_74 ?_
    cases h
    exact mt_i hC hr hlk K hP hS dX8_countOnCable_77
  replace h := mc_ie h c3
  by_cases c4 : v1 = 3
  · replace h := mc_it h c4
    refine lv_tableIn (off := 77) (tgt := 78) hx hb dX8_countOnCable_1 (by rw [c4]; decide) (by rw [c4]; decide) (by rw [c4]; decide) (by decide) ?_
    refine lv_aload_n hx hb dX8_countOnCable_78 rfl (lv_at hl 0 rfl) ?_
    refine mf_X8_10 C K hP kf_144 dX8_countOnCable_79 ?_
    refine mf_X8_174 C K hP kf_0 dX8_countOnCable_82 ?_
    refine mg_Vi (As := []) (rest := []) (ct_X1_countedSlope l (w := w) (I := I) (R := R) (kk_5_1 kf_0) rfl) C K hP hS hl.1 (kk_5_1 kf_0) (by decide) rfl rfl ml_X8_289 wy_X1_countedSlope wd_X1_countedSlope rfl rfl rfl ⟨Nat.le_of_ble_eq_true rfl, Nat.le_of_ble_eq_true rfl⟩ (Nat.le_of_ble_eq_true rfl) ⟨Nat.zero_le _, Nat.zero_le _⟩ dX8_countOnCable_85 (fun H locs hP hS => ?_)
    cases h
    exact mt_i hC hr hlk K hP hS dX8_countOnCable_88
  replace h := mc_ie h c4
  by_cases c6 : v1 = 4
  · replace h := mc_it h c6
    refine lv_tableIn (off := 88) (tgt := 89) hx hb dX8_countOnCable_1 (by rw [c6]; decide) (by rw [c6]; decide) (by rw [c6]; decide) (by decide) ?_
    refine lv_aload_n hx hb dX8_countOnCable_89 rfl (lv_at hl 0 rfl) ?_
    refine mf_X8_10 C K hP kf_144 dX8_countOnCable_90 ?_
    refine mf_X8_174 C K hP kf_0 dX8_countOnCable_93 ?_
    refine mf_X8_292 C K hP (kk_5_1 kf_0) dX8_countOnCable_96 ?_
    refine lv_if_eq (tgt := 106) hx hb dX8_countOnCable_99 (by decide) (fun c7 => ?_) (fun c7 => ?_)
    · replace h := mc_it h c7
      refine lv_iconst (v := 0) hx hb dX8_countOnCable_106 (by decide) ?_
      cases h
      exact mt_i hC hr hlk K hP hS dX8_countOnCable_107
    · replace h := mc_ie h c7
      refine lv_iconst (v := 1) hx hb dX8_countOnCable_102 (by decide) ?_
      refine lv_goto (tgt := 107) hx hb dX8_countOnCable_103 (by decide) ?_
      cases h
      exact mt_i hC hr hlk K hP hS dX8_countOnCable_107
  replace h := mc_ie h c6
  by_cases c8 : v1 = 5
  · replace h := mc_it h c8
    refine lv_tableIn (off := 107) (tgt := 108) hx hb dX8_countOnCable_1 (by rw [c8]; decide) (by rw [c8]; decide) (by rw [c8]; decide) (by decide) ?_
    refine lv_aload_n hx hb dX8_countOnCable_108 rfl (lv_at hl 0 rfl) ?_
    refine mf_X8_10 C K hP kf_144 dX8_countOnCable_109 ?_
    refine mf_X8_148 C K hP kf_0 dX8_countOnCable_112 ?_
    cases h
    exact mt_i hC hr hlk K hP hS dX8_countOnCable_115
  replace h := mc_ie h c8
  by_cases c9 : v1 = 6
  · replace h := mc_it h c9
    refine lv_tableIn (off := 115) (tgt := 116) hx hb dX8_countOnCable_1 (by rw [c9]; decide) (by rw [c9]; decide) (by rw [c9]; decide) (by decide) ?_
    refine lv_aload_n hx hb dX8_countOnCable_116 rfl (lv_at hl 0 rfl) ?_
    refine mf_X8_10 C K hP kf_144 dX8_countOnCable_117 ?_
    obtain ⟨r10, e11, h⟩ := mc_ob_e h
    refine mg_Vi (As := []) (rest := []) (ct_X5_bottlesInWater l (w := w) (I := I) (R := R) kf_0 e11) C K hP hS hl.1 kf_0 (by decide) rfl rfl ml_X8_295 wy_X5_bottlesInWater wd_X5_bottlesInWater rfl rfl rfl ⟨Nat.le_of_ble_eq_true rfl, Nat.le_of_ble_eq_true rfl⟩ (Nat.le_of_ble_eq_true rfl) ⟨Nat.zero_le _, Nat.zero_le _⟩ dX8_countOnCable_120 (fun H locs hP hS => ?_)
    cases h
    exact mt_i hC hr hlk K hP hS dX8_countOnCable_123
  replace h := mc_ie h c9
  by_cases c12 : v1 = 7
  · replace h := mc_it h c12
    refine lv_tableIn (off := 123) (tgt := 124) hx hb dX8_countOnCable_1 (by rw [c12]; decide) (by rw [c12]; decide) (by rw [c12]; decide) (by decide) ?_
    refine lv_aload_n hx hb dX8_countOnCable_124 rfl (lv_at hl 0 rfl) ?_
    refine mf_X8_10 C K hP kf_144 dX8_countOnCable_125 ?_
    obtain ⟨r13, e14, h⟩ := mc_ob_e h
    refine mg_Vi (As := []) (rest := []) (ct_X5_shutBottles l (w := w) (I := I) (R := R) kf_0 e14) C K hP hS hl.1 kf_0 (by decide) rfl rfl ml_X8_298 wy_X5_shutBottles wd_X5_shutBottles rfl rfl rfl ⟨Nat.le_of_ble_eq_true rfl, Nat.le_of_ble_eq_true rfl⟩ (Nat.le_of_ble_eq_true rfl) ⟨Nat.zero_le _, Nat.zero_le _⟩ dX8_countOnCable_128 (fun H locs hP hS => ?_)
    cases h
    exact mt_i hC hr hlk K hP hS dX8_countOnCable_131
  replace h := mc_ie h c12
  refine lv_tableOut (tgt := 132) hx hb dX8_countOnCable_1 (mc_sw (lo := 0) (hi := 7) (fun v h1 h2 => by rcases (show v = 0 ∨ v = 1 ∨ v = 2 ∨ v = 3 ∨ v = 4 ∨ v = 5 ∨ v = 6 ∨ v = 7 by omega) with rfl | rfl | rfl | rfl | rfl | rfl | rfl | rfl <;> first | exact ⟨0, by decide, c1⟩ | exact ⟨1, by decide, c2⟩ | exact ⟨2, by decide, c3⟩ | exact ⟨3, by decide, c4⟩ | exact ⟨4, by decide, c6⟩ | exact ⟨5, by decide, c8⟩ | exact ⟨6, by decide, c9⟩ | exact ⟨7, by decide, c12⟩)) (by decide) ?_
  refine lv_aload_n hx hb dX8_countOnCable_132 rfl (lv_at hl 0 rfl) ?_
  refine mf_X8_10 C K hP kf_144 dX8_countOnCable_133 ?_
  obtain ⟨r15, e16, h⟩ := mc_ob_e h
  refine mg_Vi (As := []) (rest := []) (ct_X5_doubtfulBottles l (w := w) (I := I) (R := R) kf_0 e16) C K hP hS hl.1 kf_0 (by decide) rfl rfl ml_X8_301 wy_X5_doubtfulBottles wd_X5_doubtfulBottles rfl rfl rfl ⟨Nat.le_of_ble_eq_true rfl, Nat.le_of_ble_eq_true rfl⟩ (Nat.le_of_ble_eq_true rfl) ⟨Nat.zero_le _, Nat.zero_le _⟩ dX8_countOnCable_136 (fun H locs hP hS => ?_)
  cases h
  exact mt_i hC hr hlk K hP hS dX8_countOnCable_139
set_option maxHeartbeats 4000000 in
set_option maxRecDepth 100000 in
theorem ct_X8_countOthers (l : Launch) {w : mc_w} {I : Nat → Nat → Int32} {R : Nat → Nat → Option Nat} {v1 : Int32} {rz : Int32} (h : mi_X8_countOthers I v1 = rz) : Met l yX8_countOthers (Cond.code yX8_countOthers cX8_countOthers 2 (some .int) :: mc_big) ({ frames := 0, cells := 0, slots := 0, locals := 0 } : Room) (va_Pc [.ref (w.2.2.1 144), .int v1] (mc_B mc_k 152 w I R)) (mc_Q (some (.int rz)) (mc_B mc_k 152 w I R) (mc_A 152 w)) 0 0 (mc_A 152 w) := by
  refine Met.ofW (cc := cX8_countOthers) (maxL := 2) (ret := (some .int)) (by decide) rfl ?_
  intro p e s m args below meth c s₁ B hml hv
  obtain ⟨rfl, hP, K⟩ := hv
  have hown : s.vm.findClass RX8 = some m.cls := findClass_of_methodNamed B.named
  have C : CallFix p m c cX8_countOthers 2 s _ mc_big RX8 := ⟨B.exec, B.bytes, hml, hown, fun w hw => atoms_spec B.pre w (List.mem_cons_of_mem _ hw)⟩
  have hx := C.1
  have hb := C.2.1
  have hC := And.intro C.1 C.2.1
  have hr := B.returns
  have hlk := B.notSynchronized
  have hS : va_S (mc_A 152 w) s.heap s.heap [] := va_S.rf
  have hl := lv_entry ([.ref (w.2.2.1 144), .int v1]) (n := 2) (Nat.le_of_ble_eq_true rfl)
  rw [lg_entry_eq]
  generalize (lg_sl ([.ref (w.2.2.1 144), .int v1]) ++ List.replicate (2 - (lg_sl ([.ref (w.2.2.1 144), .int v1])).length) Slot.unset).toArray = ls at hl ⊢
  have hl : lv_has ls 2 [(0, .ref (w.2.2.1 144)), (1, .int v1)] := hl
  unfold mi_X8_countOthers at h
  refine lv_iload_n hx hb dX8_countOthers_0 rfl (lv_at hl 1 rfl) ?_
  by_cases c1 : v1 = 9
  · replace h := mc_it h c1
    refine lv_tableIn (off := 51) (tgt := 52) hx hb dX8_countOthers_1 (by rw [c1]; decide) (by rw [c1]; decide) (by rw [c1]; decide) (by decide) ?_
    refine lv_aload_n hx hb dX8_countOthers_52 rfl (lv_at hl 0 rfl) ?_
    refine mf_X8_10 C K hP kf_144 dX8_countOthers_53 ?_
    refine mf_X8_162 C K hP kf_0 dX8_countOthers_56 ?_
    refine mf_X8_166 C K hP (kk_5_5 kf_0) dX8_countOthers_59 ?_
    cases h
    exact mt_i hC hr hlk K hP hS dX8_countOthers_62
  replace h := mc_ie h c1
  by_cases c2 : v1 = 10
  · replace h := mc_it h c2
    refine lv_tableIn (off := 62) (tgt := 63) hx hb dX8_countOthers_1 (by rw [c2]; decide) (by rw [c2]; decide) (by rw [c2]; decide) (by decide) ?_
    refine lv_aload_n hx hb dX8_countOthers_63 rfl (lv_at hl 0 rfl) ?_
    refine mf_X8_10 C K hP kf_144 dX8_countOthers_64 ?_
    refine mf_X8_162 C K hP kf_0 dX8_countOthers_67 ?_
    refine mf_X8_304 C K hP (kk_5_5 kf_0) dX8_countOthers_70 ?_
    cases h
    exact mt_i hC hr hlk K hP hS dX8_countOthers_73
  replace h := mc_ie h c2
  by_cases c3 : v1 = 11
  · replace h := mc_it h c3
    refine lv_tableIn (off := 73) (tgt := 74) hx hb dX8_countOthers_1 (by rw [c3]; decide) (by rw [c3]; decide) (by rw [c3]; decide) (by decide) ?_
    refine lv_aload_n hx hb dX8_countOthers_74 rfl (lv_at hl 0 rfl) ?_
    refine mf_X8_10 C K hP kf_144 dX8_countOthers_75 ?_
    refine mf_X8_162 C K hP kf_0 dX8_countOthers_78 ?_
    refine mf_X8_306 C K hP (kk_5_5 kf_0) dX8_countOthers_81 ?_
    cases h
    exact mt_i hC hr hlk K hP hS dX8_countOthers_84
  replace h := mc_ie h c3
  by_cases c4 : v1 = 12
  · replace h := mc_it h c4
    refine lv_tableIn (off := 84) (tgt := 85) hx hb dX8_countOthers_1 (by rw [c4]; decide) (by rw [c4]; decide) (by rw [c4]; decide) (by decide) ?_
    refine lv_aload_n hx hb dX8_countOthers_85 rfl (lv_at hl 0 rfl) ?_
    refine mf_X8_10 C K hP kf_144 dX8_countOthers_86 ?_
    refine mf_X8_162 C K hP kf_0 dX8_countOthers_89 ?_
    refine mf_X8_309 C K hP (kk_5_5 kf_0) dX8_countOthers_92 ?_
    cases h
    exact mt_i hC hr hlk K hP hS dX8_countOthers_95
  replace h := mc_ie h c4
  by_cases c5 : v1 = 13
  · replace h := mc_it h c5
    refine lv_tableIn (off := 95) (tgt := 96) hx hb dX8_countOthers_1 (by rw [c5]; decide) (by rw [c5]; decide) (by rw [c5]; decide) (by decide) ?_
    refine lv_aload_n hx hb dX8_countOthers_96 rfl (lv_at hl 0 rfl) ?_
    refine mf_X8_10 C K hP kf_144 dX8_countOthers_97 ?_
    refine mf_X8_162 C K hP kf_0 dX8_countOthers_100 ?_
    refine mf_X8_312 C K hP (kk_5_5 kf_0) dX8_countOthers_103 ?_
    cases h
    exact mt_i hC hr hlk K hP hS dX8_countOthers_106
  replace h := mc_ie h c5
  by_cases c6 : v1 = 14
  · replace h := mc_it h c6
    refine lv_tableIn (off := 106) (tgt := 107) hx hb dX8_countOthers_1 (by rw [c6]; decide) (by rw [c6]; decide) (by rw [c6]; decide) (by decide) ?_
    refine lv_aload_n hx hb dX8_countOthers_107 rfl (lv_at hl 0 rfl) ?_
    refine mf_X8_10 C K hP kf_144 dX8_countOthers_108 ?_
    refine mf_X8_162 C K hP kf_0 dX8_countOthers_111 ?_
    refine mf_X8_315 C K hP (kk_5_5 kf_0) dX8_countOthers_114 ?_
    cases h
    exact mt_i hC hr hlk K hP hS dX8_countOthers_117
  replace h := mc_ie h c6
  by_cases c7 : v1 = 15
  · replace h := mc_it h c7
    refine lv_tableIn (off := 117) (tgt := 118) hx hb dX8_countOthers_1 (by rw [c7]; decide) (by rw [c7]; decide) (by rw [c7]; decide) (by decide) ?_
    refine lv_aload_n hx hb dX8_countOthers_118 rfl (lv_at hl 0 rfl) ?_
    refine mf_X8_10 C K hP kf_144 dX8_countOthers_119 ?_
    refine mf_X8_318 C K hP kf_0 dX8_countOthers_122 ?_
    cases h
    exact mt_i hC hr hlk K hP hS dX8_countOthers_125
  replace h := mc_ie h c7
  by_cases c8 : v1 = 16
  · replace h := mc_it h c8
    refine lv_tableIn (off := 125) (tgt := 126) hx hb dX8_countOthers_1 (by rw [c8]; decide) (by rw [c8]; decide) (by rw [c8]; decide) (by decide) ?_
    refine lv_aload_n hx hb dX8_countOthers_126 rfl (lv_at hl 0 rfl) ?_
    refine mf_X8_10 C K hP kf_144 dX8_countOthers_127 ?_
    refine mf_X8_321 C K hP kf_0 dX8_countOthers_130 ?_
    cases h
    exact mt_i hC hr hlk K hP hS dX8_countOthers_133
  replace h := mc_ie h c8
  by_cases c9 : v1 = 17
  · replace h := mc_it h c9
    refine lv_tableIn (off := 133) (tgt := 134) hx hb dX8_countOthers_1 (by rw [c9]; decide) (by rw [c9]; decide) (by rw [c9]; decide) (by decide) ?_
    refine lv_aload_n hx hb dX8_countOthers_134 rfl (lv_at hl 0 rfl) ?_
    refine mf_X8_28 C K hP kf_144 dX8_countOthers_135 ?_
    refine mf_X8_142 C K hP kf_145 dX8_countOthers_138 ?_
    cases h
    exact mt_i hC hr hlk K hP hS dX8_countOthers_141
  replace h := mc_ie h c9
  refine lv_tableOut (tgt := 142) hx hb dX8_countOthers_1 (mc_sw (lo := 9) (hi := 17) (fun v h1 h2 => by rcases (show v = 9 ∨ v = 10 ∨ v = 11 ∨ v = 12 ∨ v = 13 ∨ v = 14 ∨ v = 15 ∨ v = 16 ∨ v = 17 by omega) with rfl | rfl | rfl | rfl | rfl | rfl | rfl | rfl | rfl <;> first | exact ⟨9, by decide, c1⟩ | exact ⟨10, by decide, c2⟩ | exact ⟨11, by decide, c3⟩ | exact ⟨12, by decide, c4⟩ | exact ⟨13, by decide, c5⟩ | exact ⟨14, by decide, c6⟩ | exact ⟨15, by decide, c7⟩ | exact ⟨16, by decide, c8⟩ | exact ⟨17, by decide, c9⟩)) (by decide) ?_
  refine lv_aload_n hx hb dX8_countOthers_142 rfl (lv_at hl 0 rfl) ?_
  refine mf_X8_35 C K hP kf_144 dX8_countOthers_143 ?_
  refine mf_X8_95 C K hP kf_147 dX8_countOthers_146 ?_
  cases h
  exact mt_i hC hr hlk K hP hS dX8_countOthers_149
set_option maxHeartbeats 4000000 in
set_option maxRecDepth 100000 in
theorem ct_X8_count (l : Launch) {w : mc_w} {I : Nat → Nat → Int32} {R : Nat → Nat → Option Nat} {F : Nat} {v1 : Int32} {rz : Int32} (h : mi_X8_count F I R v1 = some rz) : Met l yX8_count (Cond.code yX8_count cX8_count 2 (some .int) :: mc_big) ({ frames := 5, cells := 0, slots := 0, locals := 106 } : Room) (va_Pc [.ref (w.2.2.1 144), .int v1] (mc_B mc_k 152 w I R)) (mc_Q (some (.int rz)) (mc_B mc_k 152 w I R) (mc_A 152 w)) 0 0 (mc_A 152 w) := by
  refine Met.ofW (cc := cX8_count) (maxL := 2) (ret := (some .int)) (by decide) rfl ?_
  intro p e s m args below meth c s₁ B hml hv
  obtain ⟨rfl, hP, K⟩ := hv
  have hown : s.vm.findClass RX8 = some m.cls := findClass_of_methodNamed B.named
  have C : CallFix p m c cX8_count 2 s _ mc_big RX8 := ⟨B.exec, B.bytes, hml, hown, fun w hw => atoms_spec B.pre w (List.mem_cons_of_mem _ hw)⟩
  have hx := C.1
  have hb := C.2.1
  have hC := And.intro C.1 C.2.1
  have hr := B.returns
  have hlk := B.notSynchronized
  have hS : va_S (mc_A 152 w) s.heap s.heap [] := va_S.rf
  have hl := lv_entry ([.ref (w.2.2.1 144), .int v1]) (n := 2) (Nat.le_of_ble_eq_true rfl)
  rw [lg_entry_eq]
  generalize (lg_sl ([.ref (w.2.2.1 144), .int v1]) ++ List.replicate (2 - (lg_sl ([.ref (w.2.2.1 144), .int v1])).length) Slot.unset).toArray = ls at hl ⊢
  have hl : lv_has ls 2 [(0, .ref (w.2.2.1 144)), (1, .int v1)] := hl
  unfold mi_X8_count at h
  refine lv_iload_n hx hb dX8_count_0 rfl (lv_at hl 1 rfl) ?_
  refine lv_if_lt (tgt := 10) hx hb dX8_count_1 (by decide) (fun c1 => ?_) (fun c1 => ?_)
  · replace h := mc_it h c1
    refine lv_sipush (v := (-1002)) hx hb dX8_count_10 (by decide) ?_
    cases h
    exact mt_i hC hr hlk K hP hS dX8_count_13
  · replace h := mc_ie h c1
    refine lv_iload_n hx hb dX8_count_4 rfl (lv_at hl 1 rfl) ?_
    refine lv_bipush (v := 18) hx hb dX8_count_5 (by decide) ?_
    refine lv_icmp_le (tgt := 14) hx hb dX8_count_7 (by decide) (fun c2 => ?_) (fun c2 => ?_)
    · replace h := mc_it h c2
      refine lv_iload_n hx hb dX8_count_14 rfl (lv_at hl 1 rfl) ?_
      refine lv_bipush (v := 8) hx hb dX8_count_15 (by decide) ?_
      refine lv_icmp_gt (tgt := 28) hx hb dX8_count_17 (by decide) (fun c3 => ?_) (fun c3 => ?_)
      · replace h := mc_it h c3
        refine lv_aload_n hx hb dX8_count_28 rfl (lv_at hl 0 rfl) ?_
        refine lv_iload_n hx hb dX8_count_29 rfl (lv_at hl 1 rfl) ?_
        refine mg_Vi (As := [.int v1]) (rest := []) (ct_X8_countOthers l (w := w) (I := I) (R := R) rfl) C K hP hS hl.1 kf_144 (by decide) rfl rfl ml_X8_231 wy_X8_countOthers wd_X8_countOthers rfl rfl rfl ⟨Nat.le_of_ble_eq_true rfl, Nat.le_of_ble_eq_true rfl⟩ (Nat.le_of_ble_eq_true rfl) ⟨Nat.zero_le _, Nat.zero_le _⟩ dX8_count_30 (fun H locs hP hS => ?_)
        cases h
        exact mt_i hC hr hlk K hP hS dX8_count_33
      · replace h := mc_ie h c3
        refine lv_aload_n hx hb dX8_count_20 rfl (lv_at hl 0 rfl) ?_
        refine lv_iload_n hx hb dX8_count_21 rfl (lv_at hl 1 rfl) ?_
        obtain ⟨r5, e6, h⟩ := mc_ob_e h
        refine mg_Vi (As := [.int v1]) (rest := []) (ct_X8_countOnCable l (w := w) (I := I) (R := R) e6) C K hP hS hl.1 kf_144 (by decide) rfl rfl ml_X8_228 wy_X8_countOnCable wd_X8_countOnCable rfl rfl rfl ⟨Nat.le_of_ble_eq_true rfl, Nat.le_of_ble_eq_true rfl⟩ (Nat.le_of_ble_eq_true rfl) ⟨Nat.zero_le _, Nat.zero_le _⟩ dX8_count_22 (fun H locs hP hS => ?_)
        refine lv_goto (tgt := 33) hx hb dX8_count_25 (by decide) ?_
        cases h
        exact mt_i hC hr hlk K hP hS dX8_count_33
    · replace h := mc_ie h c2
      refine lv_sipush (v := (-1002)) hx hb dX8_count_10 (by decide) ?_
      cases h
      exact mt_i hC hr hlk K hP hS dX8_count_13

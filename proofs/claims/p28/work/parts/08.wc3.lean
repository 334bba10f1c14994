set_option maxHeartbeats 4000000 in
set_option maxRecDepth 100000 in
theorem ct_X8_reason (l : Launch) {w : mc_w} {I : Nat → Nat → Int32} {R : Nat → Nat → Option Nat} {F : Nat} {v1 : Int32} {Iz : Nat → Nat → Int32} {rz : Int32} (h : mi_X8_reason F I R v1 = some (Iz, rz)) : Met l yX8_reason (Cond.code yX8_reason cX8_reason 3 (some .int) :: mc_big) ({ frames := 7, cells := 0, slots := 0, locals := 156 } : Room) (va_Pc [.ref (w.2.2.1 144), .int v1] (mc_B mc_k 152 w I R)) (mc_Q (some (.int rz)) (mc_B mc_k 152 w Iz R) (mc_A 152 w)) 0 0 (mc_A 152 w) := by
  refine Met.ofW (cc := cX8_reason) (maxL := 3) (ret := (some .int)) (by decide) rfl ?_
  intro p e s m args below meth c s₁ B hml hv
  obtain ⟨rfl, hP, K⟩ := hv
  have hown : s.vm.findClass RX8 = some m.cls := findClass_of_methodNamed B.named
  have C : CallFix p m c cX8_reason 3 s _ mc_big RX8 := ⟨B.exec, B.bytes, hml, hown, fun w hw => atoms_spec B.pre w (List.mem_cons_of_mem _ hw)⟩
  have hx := C.1
  have hb := C.2.1
  have hC := And.intro C.1 C.2.1
  have hr := B.returns
  have hlk := B.notSynchronized
  have hS : va_S (mc_A 152 w) s.heap s.heap [] := va_S.rf
  have hl := lv_entry ([.ref (w.2.2.1 144), .int v1]) (n := 3) (Nat.le_of_ble_eq_true rfl)
  rw [lg_entry_eq]
  generalize (lg_sl ([.ref (w.2.2.1 144), .int v1]) ++ List.replicate (3 - (lg_sl ([.ref (w.2.2.1 144), .int v1])).length) Slot.unset).toArray = ls at hl ⊢
  have hl : lv_has ls 3 [(0, .ref (w.2.2.1 144)), (1, .int v1)] := hl
  unfold mi_X8_reason at h
  refine lv_aload_n hx hb dX8_reason_0 rfl (lv_at hl 0 rfl) ?_
  refine mf_X8_10 C K hP kf_144 dX8_reason_1 ?_
  refine lv_iload_n hx hb dX8_reason_4 rfl (lv_at hl 1 rfl) ?_
  obtain ⟨r1, e2, h⟩ := mc_ob_e h
  refine mg_Vr (As := [.int v1]) (rest := []) (ct_X5_bottleAt l (w := w) (I := I) (R := R) kf_0 e2) C K hP hS hl.1 kf_0 (by decide) rfl rfl ml_X8_151 wy_X5_bottleAt wd_X5_bottleAt rfl rfl rfl ⟨Nat.le_of_ble_eq_true rfl, Nat.le_of_ble_eq_true rfl⟩ (Nat.le_of_ble_eq_true rfl) ⟨Nat.zero_le _, Nat.zero_le _⟩ dX8_reason_5 (fun H locs hP tr1 hS => ?_)
  refine mv_astore_n (i := 2) (lv' := [(2, va_re w.2.2.1 r1), (0, .ref (w.2.2.1 144)), (1, .int v1)]) hC dX8_reason_8 rfl hl (by decide) rfl (fun ls hl => ?_)
  refine mv_aload_n hC dX8_reason_9 rfl (lv_at hl 0 rfl) ?_
  rcases r1 with _ | b3
  · replace h := mc_om_n h
    refine lv_ifnonnullN hx hb dX8_reason_10 ?_
    have hl : lv_has ls 3 [(2, va_re w.2.2.1 none), (0, .ref (w.2.2.1 144)), (1, .int v1)] := hl
    refine lv_sipush (v := (-1001)) hx hb dX8_reason_13 (by decide) ?_
    cases h
    exact mt_i hC hr hlk K hP hS dX8_reason_16
  · replace h := mc_om_s h
    have kb3 := tr1 b3 rfl
    refine lv_ifnonnull (tgt := 17) hx hb dX8_reason_10 (by decide) ?_
    have hl : lv_has ls 3 [(2, .ref (w.2.2.1 b3)), (0, .ref (w.2.2.1 144)), (1, .int v1)] := hl
    refine lv_aload_n hx hb dX8_reason_17 rfl (lv_at hl 0 rfl) ?_
    refine mf_X8_201 C K hP kb3 dX8_reason_18 ?_
    refine lv_if_eq (tgt := 26) hx hb dX8_reason_21 (by decide) (fun c4 => ?_) (fun c4 => ?_)
    · replace h := mc_it h c4
      refine lv_aload_n hx hb dX8_reason_26 rfl (lv_at hl 1 rfl) ?_
      refine mf_X8_10 C K hP kf_144 dX8_reason_27 ?_
      refine mf_X8_174 C K hP kf_0 dX8_reason_30 ?_
      refine lv_aload_n hx hb dX8_reason_33 rfl (lv_at hl 0 rfl) ?_
      refine mf_X8_206 C K hP kb3 dX8_reason_34 ?_
      refine mg_Vz (As := [.int (I b3 0)]) (rest := []) (ct_X1_isInWater l (w := w) (I := I) (R := R) (kk_5_1 kf_0) rfl) C K hP hS hl.1 (kk_5_1 kf_0) (by decide) rfl rfl ml_X8_209 wy_X1_isInWater wd_X1_isInWater rfl rfl rfl ⟨Nat.le_of_ble_eq_true rfl, Nat.le_of_ble_eq_true rfl⟩ (Nat.le_of_ble_eq_true rfl) ⟨Nat.zero_le _, Nat.zero_le _⟩ dX8_reason_37 (fun H locs hP z6 hS => ?_)
      refine lv_if_ne (tgt := 45) hx hb dX8_reason_40 (by decide) (fun c7 => ?_) (fun c7 => ?_)
      · replace h := mc_ie h c7
        refine lv_aload_n hx hb dX8_reason_45 rfl (lv_at hl 1 rfl) ?_
        refine mf_X8_10 C K hP kf_144 dX8_reason_46 ?_
        refine mf_X8_174 C K hP kf_0 dX8_reason_49 ?_
        refine mg_Vz (As := []) (rest := []) (ct_X1_isSticking l (w := w) (I := I) (R := R) (kk_5_1 kf_0) rfl) C K hP hS hl.1 (kk_5_1 kf_0) (by decide) rfl rfl ml_X8_212 wy_X1_isSticking wd_X1_isSticking rfl rfl rfl ⟨Nat.le_of_ble_eq_true rfl, Nat.le_of_ble_eq_true rfl⟩ (Nat.le_of_ble_eq_true rfl) ⟨Nat.zero_le _, Nat.zero_le _⟩ dX8_reason_52 (fun H locs hP z9 hS => ?_)
        refine lv_if_eq (tgt := 60) hx hb dX8_reason_55 (by decide) (fun c10 => ?_) (fun c10 => ?_)
        · replace h := mc_it h c10
          refine lv_aload_n hx hb dX8_reason_60 rfl (lv_at hl 1 rfl) ?_
          refine mf_X8_10 C K hP kf_144 dX8_reason_61 ?_
          refine mf_X8_162 C K hP kf_0 dX8_reason_64 ?_
          refine lv_aload_n hx hb dX8_reason_67 rfl (lv_at hl 0 rfl) ?_
          refine mf_X8_206 C K hP kb3 dX8_reason_68 ?_
          obtain ⟨r11, e12, h⟩ := mc_ob_e h
          refine mg_Vz (As := [.int (I b3 0)]) (rest := []) (ct_X4_isAnyAbove l (w := w) (I := I) (R := R) (kk_5_5 kf_0) e12) C K hP hS hl.1 (kk_5_5 kf_0) (by decide) rfl rfl ml_X8_216 wy_X4_isAnyAbove wd_X4_isAnyAbove rfl rfl rfl ⟨Nat.le_of_ble_eq_true rfl, Nat.le_of_ble_eq_true rfl⟩ (Nat.le_of_ble_eq_true rfl) ⟨Nat.zero_le _, Nat.zero_le _⟩ dX8_reason_71 (fun H locs hP z13 hS => ?_)
          refine lv_if_ne (tgt := 79) hx hb dX8_reason_74 (by decide) (fun c14 => ?_) (fun c14 => ?_)
          · replace h := mc_ie h c14
            refine lv_aload_n hx hb dX8_reason_79 rfl (lv_at hl 1 rfl) ?_
            refine lv_iload_n hx hb dX8_reason_80 rfl (lv_at hl 2 rfl) ?_
            obtain ⟨I15, r16, e17, h⟩ := mc_ob2_e h
            refine mg_Vi (As := [.int v1]) (rest := []) (ct_X8_secondsToShut l (w := w) (I := I) (R := R) e17) C K hP hS hl.1 kf_144 (by decide) rfl rfl ml_X8_219 wy_X8_secondsToShut wd_X8_secondsToShut rfl rfl rfl ⟨Nat.le_of_ble_eq_true rfl, Nat.le_of_ble_eq_true rfl⟩ (Nat.le_of_ble_eq_true rfl) ⟨Nat.zero_le _, Nat.zero_le _⟩ dX8_reason_81 (fun H locs hP hS => ?_)
            refine lv_sipush (v := (-1005)) hx hb dX8_reason_84 (by decide) ?_
            refine lv_icmp_ne (tgt := 94) hx hb dX8_reason_87 (by decide) (fun c18 => ?_) (fun c18 => ?_)
            · replace h := mc_ie h c18
              refine lv_iconst (v := 0) hx hb dX8_reason_94 (by decide) ?_
              cases h
              exact mt_i hC hr hlk K hP hS dX8_reason_95
            · replace h := mc_it h c18
              refine lv_iconst (v := 5) hx hb dX8_reason_90 (by decide) ?_
              refine lv_goto (tgt := 95) hx hb dX8_reason_91 (by decide) ?_
              cases h
              exact mt_i hC hr hlk K hP hS dX8_reason_95
          · replace h := mc_it h c14
            refine lv_iconst (v := 4) hx hb dX8_reason_77 (by decide) ?_
            cases h
            exact mt_i hC hr hlk K hP hS dX8_reason_78
        · replace h := mc_ie h c10
          refine lv_iconst (v := 3) hx hb dX8_reason_58 (by decide) ?_
          cases h
          exact mt_i hC hr hlk K hP hS dX8_reason_59
      · replace h := mc_it h c7
        refine lv_iconst (v := 2) hx hb dX8_reason_43 (by decide) ?_
        cases h
        exact mt_i hC hr hlk K hP hS dX8_reason_44
    · replace h := mc_ie h c4
      refine lv_iconst (v := 1) hx hb dX8_reason_24 (by decide) ?_
      cases h
      exact mt_i hC hr hlk K hP hS dX8_reason_25
set_option maxHeartbeats 4000000 in
set_option maxRecDepth 100000 in
theorem ct_X8_shutIn (l : Launch) {w : mc_w} {I : Nat → Nat → Int32} {R : Nat → Nat → Option Nat} {F : Nat} {v1 : Int32} {Iz : Nat → Nat → Int32} {rz : Int32} (h : mi_X8_shutIn F I R v1 = some (Iz, rz)) : Met l yX8_shutIn (Cond.code yX8_shutIn cX8_shutIn 3 (some .int) :: mc_big) ({ frames := 7, cells := 0, slots := 0, locals := 156 } : Room) (va_Pc [.ref (w.2.2.1 144), .int v1] (mc_B mc_k 152 w I R)) (mc_Q (some (.int rz)) (mc_B mc_k 152 w Iz R) (mc_A 152 w)) 0 0 (mc_A 152 w) := by
  refine Met.ofW (cc := cX8_shutIn) (maxL := 3) (ret := (some .int)) (by decide) rfl ?_
  intro p e s m args below meth c s₁ B hml hv
  obtain ⟨rfl, hP, K⟩ := hv
  have hown : s.vm.findClass RX8 = some m.cls := findClass_of_methodNamed B.named
  have C : CallFix p m c cX8_shutIn 3 s _ mc_big RX8 := ⟨B.exec, B.bytes, hml, hown, fun w hw => atoms_spec B.pre w (List.mem_cons_of_mem _ hw)⟩
  have hx := C.1
  have hb := C.2.1
  have hC := And.intro C.1 C.2.1
  have hr := B.returns
  have hlk := B.notSynchronized
  have hS : va_S (mc_A 152 w) s.heap s.heap [] := va_S.rf
  have hl := lv_entry ([.ref (w.2.2.1 144), .int v1]) (n := 3) (Nat.le_of_ble_eq_true rfl)
  rw [lg_entry_eq]
  generalize (lg_sl ([.ref (w.2.2.1 144), .int v1]) ++ List.replicate (3 - (lg_sl ([.ref (w.2.2.1 144), .int v1])).length) Slot.unset).toArray = ls at hl ⊢
  have hl : lv_has ls 3 [(0, .ref (w.2.2.1 144)), (1, .int v1)] := hl
  unfold mi_X8_shutIn at h
  refine lv_aload_n hx hb dX8_shutIn_0 rfl (lv_at hl 0 rfl) ?_
  refine mf_X8_10 C K hP kf_144 dX8_shutIn_1 ?_
  refine lv_iload_n hx hb dX8_shutIn_4 rfl (lv_at hl 1 rfl) ?_
  obtain ⟨r1, e2, h⟩ := mc_ob_e h
  refine mg_Vr (As := [.int v1]) (rest := []) (ct_X5_bottleAt l (w := w) (I := I) (R := R) kf_0 e2) C K hP hS hl.1 kf_0 (by decide) rfl rfl ml_X8_151 wy_X5_bottleAt wd_X5_bottleAt rfl rfl rfl ⟨Nat.le_of_ble_eq_true rfl, Nat.le_of_ble_eq_true rfl⟩ (Nat.le_of_ble_eq_true rfl) ⟨Nat.zero_le _, Nat.zero_le _⟩ dX8_shutIn_5 (fun H locs hP tr1 hS => ?_)
  refine mv_astore_n (i := 2) (lv' := [(2, va_re w.2.2.1 r1), (0, .ref (w.2.2.1 144)), (1, .int v1)]) hC dX8_shutIn_8 rfl hl (by decide) rfl (fun ls hl => ?_)
  refine mv_aload_n hC dX8_shutIn_9 rfl (lv_at hl 0 rfl) ?_
  rcases r1 with _ | b3
  · replace h := mc_om_n h
    refine lv_ifnonnullN hx hb dX8_shutIn_10 ?_
    have hl : lv_has ls 3 [(2, va_re w.2.2.1 none), (0, .ref (w.2.2.1 144)), (1, .int v1)] := hl
    refine lv_sipush (v := (-1001)) hx hb dX8_shutIn_13 (by decide) ?_
    cases h
    exact mt_i hC hr hlk K hP hS dX8_shutIn_16
  · replace h := mc_om_s h
    have kb3 := tr1 b3 rfl
    refine lv_ifnonnull (tgt := 17) hx hb dX8_shutIn_10 (by decide) ?_
    have hl : lv_has ls 3 [(2, .ref (w.2.2.1 b3)), (0, .ref (w.2.2.1 144)), (1, .int v1)] := hl
    refine lv_aload_n hx hb dX8_shutIn_17 rfl (lv_at hl 0 rfl) ?_
    refine mf_X8_201 C K hP kb3 dX8_shutIn_18 ?_
    refine lv_if_eq (tgt := 30) hx hb dX8_shutIn_21 (by decide) (fun c4 => ?_) (fun c4 => ?_)
    · replace h := mc_it h c4
      refine lv_aload_n hx hb dX8_shutIn_30 rfl (lv_at hl 1 rfl) ?_
      refine lv_iload_n hx hb dX8_shutIn_31 rfl (lv_at hl 2 rfl) ?_
      obtain ⟨I5, r6, e7, h⟩ := mc_ob2_e h
      refine mg_Vi (As := [.int v1]) (rest := []) (ct_X8_secondsToShut l (w := w) (I := I) (R := R) e7) C K hP hS hl.1 kf_144 (by decide) rfl rfl ml_X8_219 wy_X8_secondsToShut wd_X8_secondsToShut rfl rfl rfl ⟨Nat.le_of_ble_eq_true rfl, Nat.le_of_ble_eq_true rfl⟩ (Nat.le_of_ble_eq_true rfl) ⟨Nat.zero_le _, Nat.zero_le _⟩ dX8_shutIn_32 (fun H locs hP hS => ?_)
      cases h
      exact mt_i hC hr hlk K hP hS dX8_shutIn_35
    · replace h := mc_ie h c4
      refine lv_sipush (v := (-1005)) hx hb dX8_shutIn_24 (by decide) ?_
      refine lv_goto (tgt := 35) hx hb dX8_shutIn_27 (by decide) ?_
      cases h
      exact mt_i hC hr hlk K hP hS dX8_shutIn_35
set_option maxHeartbeats 4000000 in
set_option maxRecDepth 100000 in
theorem ct_X8_quietIn (l : Launch) {w : mc_w} {I : Nat → Nat → Int32} {R : Nat → Nat → Option Nat} {F : Nat} {Iz : Nat → Nat → Int32} {rz : Int32} (h : mi_X8_quietIn F I R = some (Iz, rz)) : Met l yX8_quietIn (Cond.code yX8_quietIn cX8_quietIn 1 (some .int) :: mc_big) ({ frames := 6, cells := 0, slots := 0, locals := 133 } : Room) (va_Pc [.ref (w.2.2.1 144)] (mc_B mc_k 152 w I R)) (mc_Q (some (.int rz)) (mc_B mc_k 152 w Iz R) (mc_A 152 w)) 0 0 (mc_A 152 w) := by
  refine Met.ofW (cc := cX8_quietIn) (maxL := 1) (ret := (some .int)) (by decide) rfl ?_
  intro p e s m args below meth c s₁ B hml hv
  obtain ⟨rfl, hP, K⟩ := hv
  have hown : s.vm.findClass RX8 = some m.cls := findClass_of_methodNamed B.named
  have C : CallFix p m c cX8_quietIn 1 s _ mc_big RX8 := ⟨B.exec, B.bytes, hml, hown, fun w hw => atoms_spec B.pre w (List.mem_cons_of_mem _ hw)⟩
  have hx := C.1
  have hb := C.2.1
  have hC := And.intro C.1 C.2.1
  have hr := B.returns
  have hlk := B.notSynchronized
  have hS : va_S (mc_A 152 w) s.heap s.heap [] := va_S.rf
  have hl := lv_entry ([.ref (w.2.2.1 144)]) (n := 1) (Nat.le_of_ble_eq_true rfl)
  rw [lg_entry_eq]
  generalize (lg_sl ([.ref (w.2.2.1 144)]) ++ List.replicate (1 - (lg_sl ([.ref (w.2.2.1 144)])).length) Slot.unset).toArray = ls at hl ⊢
  have hl : lv_has ls 1 [(0, .ref (w.2.2.1 144))] := hl
  unfold mi_X8_quietIn at h
  refine lv_aload_n hx hb dX8_quietIn_0 rfl (lv_at hl 0 rfl) ?_
  refine mf_X8_10 C K hP kf_144 dX8_quietIn_1 ?_
  refine mf_X8_162 C K hP kf_0 dX8_quietIn_4 ?_
  refine mf_X8_166 C K hP (kk_5_5 kf_0) dX8_quietIn_7 ?_
  refine lv_if_ne (tgt := 15) hx hb dX8_quietIn_10 (by decide) (fun c1 => ?_) (fun c1 => ?_)
  · replace h := mc_ie h c1
    refine lv_aload_n hx hb dX8_quietIn_15 rfl (lv_at hl 0 rfl) ?_
    refine mf_X8_10 C K hP kf_144 dX8_quietIn_16 ?_
    refine mf_X8_174 C K hP kf_0 dX8_quietIn_19 ?_
    refine mg_Vz (As := []) (rest := []) (ct_X1_isSticking l (w := w) (I := I) (R := R) (kk_5_1 kf_0) rfl) C K hP hS hl.1 (kk_5_1 kf_0) (by decide) rfl rfl ml_X8_212 wy_X1_isSticking wd_X1_isSticking rfl rfl rfl ⟨Nat.le_of_ble_eq_true rfl, Nat.le_of_ble_eq_true rfl⟩ (Nat.le_of_ble_eq_true rfl) ⟨Nat.zero_le _, Nat.zero_le _⟩ dX8_quietIn_22 (fun H locs hP z3 hS => ?_)
    refine lv_if_eq (tgt := 32) hx hb dX8_quietIn_25 (by decide) (fun c4 => ?_) (fun c4 => ?_)
    · replace h := mc_it h c4
      refine lv_aload_n hx hb dX8_quietIn_32 rfl (lv_at hl 0 rfl) ?_
      refine mf_X8_19 C K hP kf_144 dX8_quietIn_33 ?_
      refine lv_aload_n hx hb dX8_quietIn_36 rfl (lv_at hl 0 rfl) ?_
      refine mf_X8_10 C K hP kf_144 dX8_quietIn_37 ?_
      obtain ⟨I5, e6, h⟩ := mc_ob_e h
      refine mg_Vv (As := [.ref (w.2.2.1 0)]) (rest := []) (ct_X5_copyFrom l (w := w) (I := I) (R := R) kf_36 kf_0 e6) C K hP hS hl.1 kf_36 (by decide) rfl rfl ml_X8_46 wy_X5_copyFrom wd_X5_copyFrom rfl rfl rfl ⟨Nat.le_of_ble_eq_true rfl, Nat.le_of_ble_eq_true rfl⟩ (Nat.le_of_ble_eq_true rfl) ⟨Nat.zero_le _, Nat.zero_le _⟩ dX8_quietIn_40 (fun H locs hP hS => ?_)
      refine lv_aload_n hx hb dX8_quietIn_43 rfl (lv_at hl 0 rfl) ?_
      refine mf_X8_19 C K hP kf_144 dX8_quietIn_44 ?_
      obtain ⟨I7, r8, e9, h⟩ := mc_ob2_e h
      refine mg_Vi (As := []) (rest := []) (ct_X5_runUntilQuiet l (w := w) (I := I5) (R := R) kf_36 e9) C K hP hS hl.1 kf_36 (by decide) rfl rfl ml_X8_222 wy_X5_runUntilQuiet wd_X5_runUntilQuiet rfl rfl rfl ⟨Nat.le_of_ble_eq_true rfl, Nat.le_of_ble_eq_true rfl⟩ (Nat.le_of_ble_eq_true rfl) ⟨Nat.zero_le _, Nat.zero_le _⟩ dX8_quietIn_47 (fun H locs hP hS => ?_)
      cases h
      exact mt_i hC hr hlk K hP hS dX8_quietIn_50
    · replace h := mc_ie h c4
      refine lv_sipush (v := (-1005)) hx hb dX8_quietIn_28 (by decide) ?_
      cases h
      exact mt_i hC hr hlk K hP hS dX8_quietIn_31
  · replace h := mc_it h c1
    refine lv_iconst (v := 0) hx hb dX8_quietIn_13 (by decide) ?_
    cases h
    exact mt_i hC hr hlk K hP hS dX8_quietIn_14
set_option maxHeartbeats 4000000 in
set_option maxRecDepth 100000 in
theorem bk_X8_worst_B8 {p : Program} {l : Launch} {e : Env} {s : State} {m : MethodId} {args : Array Value} {below : List Frame} {meth : Method} {c : Code} (C : CallFix p m c cX8_worst 5 s args mc_big RX8) (hr : meth.sig.returnType = (some .int)) (hlk : meth.locks = false) {w : mc_w} (K : mc_K mc_k 152 w s) {I : Nat → Nat → Int32} {R : Nat → Nat → Option Nat} {F : Nat} {rz : Int32} {k8 : (Nat → Nat → Int32) → (Nat → Nat → Option Nat) → Int32 → Int32 → Int32 → Option (Int32)} (hk8 : ∀ (v1 : Int32) (v2 : Int32) (v3 : Int32), k8 I R v1 v2 v3 = some rz → ∀ {H : Heap} {locs : List Loc} {ls : Array Slot}, mc_P mc_k 152 w I R H → va_S (mc_A 152 w) s.heap H locs → lv_has ls 5 [(0, .ref (w.2.2.1 144)), (1, .int v1), (2, .int v2), (3, .int v3)] → W p l e ({ frames := 2, cells := 0, slots := 0, locals := 41 } : Room) s m args below meth c H locs 0 0 (MQ below (mc_Q (some (.int rz)) (mc_B mc_k 152 w I R) (mc_A 152 w)) args s 0 0 (mc_A 152 w)) (F0 m 8 ls [])) : ∀ (v1 : Int32) (v2 : Int32) (v3 : Int32), mi_X8_worst_B8 k8 F I R v1 v2 v3 = some rz → ∀ {H : Heap} {locs : List Loc} {ls : Array Slot}, mc_P mc_k 152 w I R H → va_S (mc_A 152 w) s.heap H locs → lv_has ls 5 [(0, .ref (w.2.2.1 144)), (1, .int v1), (2, .int v2), (3, .int v3)] → W p l e ({ frames := 2, cells := 0, slots := 0, locals := 41 } : Room) s m args below meth c H locs 0 0 (MQ below (mc_Q (some (.int rz)) (mc_B mc_k 152 w I R) (mc_A 152 w)) args s 0 0 (mc_A 152 w)) (F0 m 8 ls []) := by
  intro v1 v2 v3 h  H locs ls hP hS hl
  have hx := C.1
  have hb := C.2.1
  have hC := And.intro C.1 C.2.1
  unfold mi_X8_worst_B8 at h
  refine lv_iload_n hx hb dX8_worst_8 rfl (lv_at hl 3 rfl) ?_
  refine lv_aload_n hx hb dX8_worst_9 rfl (lv_at hl 0 rfl) ?_
  refine mf_X8_10 C K hP kf_144 dX8_worst_10 ?_
  refine mf_X8_148 C K hP kf_0 dX8_worst_13 ?_
  refine lv_icmp_ge (tgt := 65) hx hb dX8_worst_16 (by decide) (fun c1 => ?_) (fun c1 => ?_)
  · replace h := mc_it h c1
    refine lv_iload_n hx hb dX8_worst_65 rfl (lv_at hl 1 rfl) ?_
    cases h
    exact mt_i hC hr hlk K hP hS dX8_worst_66
  · replace h := mc_ie h c1
    refine lv_aload_n hx hb dX8_worst_19 rfl (lv_at hl 0 rfl) ?_
    refine mf_X8_10 C K hP kf_144 dX8_worst_20 ?_
    refine lv_iload_n hx hb dX8_worst_23 rfl (lv_at hl 3 rfl) ?_
    obtain ⟨r2, e3, h⟩ := mc_ob_e h
    refine mg_Vr (As := [.int v3]) (rest := []) (ct_X5_bottleAt l (w := w) (I := I) (R := R) kf_0 e3) C K hP hS hl.1 kf_0 (by decide) rfl rfl ml_X8_151 wy_X5_bottleAt wd_X5_bottleAt rfl rfl rfl ⟨Nat.le_of_ble_eq_true rfl, Nat.le_of_ble_eq_true rfl⟩ (Nat.le_of_ble_eq_true rfl) ⟨Nat.zero_le _, Nat.zero_le _⟩ dX8_worst_24 (fun H locs hP tr2 hS => ?_)
    refine mv_astore (i := 4) (lv' := [(4, va_re w.2.2.1 r2), (0, .ref (w.2.2.1 144)), (1, .int v1), (2, .int v2), (3, .int v3)]) hC dX8_worst_27 hl (by decide) rfl (fun ls hl => ?_)
    refine mv_aload hC dX8_worst_29 (lv_at hl 0 rfl) ?_
    rcases r2 with _ | b4
    · replace h := mc_om_n h
      refine lv_ifnullN (tgt := 59) hx hb dX8_worst_31 (by decide) ?_
      have hl : lv_has ls 5 [(4, va_re w.2.2.1 none), (0, .ref (w.2.2.1 144)), (1, .int v1), (2, .int v2), (3, .int v3)] := hl
      obtain ⟨x5, ex5, h⟩ := mc_bn_e h
      refine lv_iinc (v := x5) (lv' := [(3, .int x5), (4, va_re w.2.2.1 none), (0, .ref (w.2.2.1 144)), (1, .int v1), (2, .int v2)]) hx hb dX8_worst_59 hl (k := 4) rfl (by rw [ex5]; rfl) (by decide) rfl (fun ls hl => ?_)
      refine lv_goto (tgt := 8) hx hb dX8_worst_62 (by decide) ?_
      exact hk8 v1 v2 x5 h  hP hS (lv_sub hl [2, 3, 4, 0] rfl)
    · replace h := mc_om_s h
      have kb4 := tr2 b4 rfl
      refine lv_ifnull hx hb dX8_worst_31 ?_
      have hl : lv_has ls 5 [(4, .ref (w.2.2.1 b4)), (0, .ref (w.2.2.1 144)), (1, .int v1), (2, .int v2), (3, .int v3)] := hl
      refine lv_aload hx hb dX8_worst_34 (lv_at hl 0 rfl) ?_
      refine mf_X8_201 C K hP kb4 dX8_worst_36 ?_
      refine lv_if_eq (tgt := 59) hx hb dX8_worst_39 (by decide) (fun c6 => ?_) (fun c6 => ?_)
      · replace h := mc_it h c6
        obtain ⟨x7, ex7, h⟩ := mc_bn_e h
        refine lv_iinc (v := x7) (lv' := [(3, .int x7), (4, .ref (w.2.2.1 b4)), (0, .ref (w.2.2.1 144)), (1, .int v1), (2, .int v2)]) hx hb dX8_worst_59 hl (k := 4) rfl (by rw [ex7]; rfl) (by decide) rfl (fun ls hl => ?_)
        refine lv_goto (tgt := 8) hx hb dX8_worst_62 (by decide) ?_
        exact hk8 v1 v2 x7 h  hP hS (lv_sub hl [2, 3, 4, 0] rfl)
      · replace h := mc_ie h c6
        refine lv_aload hx hb dX8_worst_42 (lv_at hl 0 rfl) ?_
        refine mg_Vi (As := []) (rest := []) (ct_X0_difference l (w := w) (I := I) (R := R) kb4 rfl) C K hP hS hl.1 kb4 (by decide) rfl rfl ml_X8_225 wy_X0_difference wd_X0_difference rfl rfl rfl ⟨Nat.le_of_ble_eq_true rfl, Nat.le_of_ble_eq_true rfl⟩ (Nat.le_of_ble_eq_true rfl) ⟨Nat.zero_le _, Nat.zero_le _⟩ dX8_worst_44 (fun H locs hP hS => ?_)
        refine lv_iload_n hx hb dX8_worst_47 rfl (lv_at hl 3 rfl) ?_
        refine lv_icmp_le (tgt := 59) hx hb dX8_worst_48 (by decide) (fun c9 => ?_) (fun c9 => ?_)
        · replace h := mc_it h c9
          obtain ⟨x10, ex10, h⟩ := mc_bn_e h
          refine lv_iinc (v := x10) (lv' := [(3, .int x10), (4, .ref (w.2.2.1 b4)), (0, .ref (w.2.2.1 144)), (1, .int v1), (2, .int v2)]) hx hb dX8_worst_59 hl (k := 4) rfl (by rw [ex10]; rfl) (by decide) rfl (fun ls hl => ?_)
          refine lv_goto (tgt := 8) hx hb dX8_worst_62 (by decide) ?_
          exact hk8 v1 v2 x10 h  hP hS (lv_sub hl [2, 3, 4, 0] rfl)
        · replace h := mc_ie h c9
          refine lv_iload_n hx hb dX8_worst_51 rfl (lv_at hl 4 rfl) ?_
          refine lv_istore_n (i := 1) (lv' := [(1, .int v3), (4, .ref (w.2.2.1 b4)), (0, .ref (w.2.2.1 144)), (2, .int v2), (3, .int v3)]) hx hb dX8_worst_52 rfl hl (by decide) rfl (fun ls hl => ?_)
          refine lv_aload hx hb dX8_worst_53 (lv_at hl 1 rfl) ?_
          refine mg_Vi (As := []) (rest := []) (ct_X0_difference l (w := w) (I := I) (R := R) kb4 rfl) C K hP hS hl.1 kb4 (by decide) rfl rfl ml_X8_225 wy_X0_difference wd_X0_difference rfl rfl rfl ⟨Nat.le_of_ble_eq_true rfl, Nat.le_of_ble_eq_true rfl⟩ (Nat.le_of_ble_eq_true rfl) ⟨Nat.zero_le _, Nat.zero_le _⟩ dX8_worst_55 (fun H locs hP hS => ?_)
          obtain ⟨x12, ex12, h⟩ := mc_bn_e h
          refine mv_top ex12 ?_
          refine lv_istore_n (i := 2) (lv' := [(2, .int x12), (1, .int v3), (4, .ref (w.2.2.1 b4)), (0, .ref (w.2.2.1 144)), (3, .int v3)]) hx hb dX8_worst_58 rfl hl (by decide) rfl (fun ls hl => ?_)
          obtain ⟨x13, ex13, h⟩ := mc_bn_e h
          refine lv_iinc (v := x13) (lv' := [(3, .int x13), (2, .int x12), (1, .int v3), (4, .ref (w.2.2.1 b4)), (0, .ref (w.2.2.1 144))]) hx hb dX8_worst_59 hl (k := 4) rfl (by rw [ex13]; rfl) (by decide) rfl (fun ls hl => ?_)
          refine lv_goto (tgt := 8) hx hb dX8_worst_62 (by decide) ?_
          exact hk8 v3 x12 x13 h  hP hS (lv_sub hl [4, 2, 1, 0] rfl)
theorem bk_X8_worst_L8 {p : Program} {l : Launch} {e : Env} {s : State} {m : MethodId} {args : Array Value} {below : List Frame} {meth : Method} {c : Code} (C : CallFix p m c cX8_worst 5 s args mc_big RX8) (hr : meth.sig.returnType = (some .int)) (hlk : meth.locks = false) {w : mc_w} (K : mc_K mc_k 152 w s) {I : Nat → Nat → Int32} {R : Nat → Nat → Option Nat} {F : Nat} {rz : Int32} : ∀ n : Nat, ∀ (v1 : Int32) (v2 : Int32) (v3 : Int32), mi_X8_worst_L8 F n I R v1 v2 v3 = some rz → ∀ {H : Heap} {locs : List Loc} {ls : Array Slot}, mc_P mc_k 152 w I R H → va_S (mc_A 152 w) s.heap H locs → lv_has ls 5 [(0, .ref (w.2.2.1 144)), (1, .int v1), (2, .int v2), (3, .int v3)] → W p l e ({ frames := 2, cells := 0, slots := 0, locals := 41 } : Room) s m args below meth c H locs 0 0 (MQ below (mc_Q (some (.int rz)) (mc_B mc_k 152 w I R) (mc_A 152 w)) args s 0 0 (mc_A 152 w)) (F0 m 8 ls []) := by
  intro n
  induction n with
  | zero =>
    intro v1 v2 v3 h
    cases h
  | succ n ih =>
    intro v1 v2 v3 h
    exact bk_X8_worst_B8 C hr hlk K  ih v1 v2 v3 h
set_option maxHeartbeats 4000000 in
set_option maxRecDepth 100000 in
theorem ct_X8_worst (l : Launch) {w : mc_w} {I : Nat → Nat → Int32} {R : Nat → Nat → Option Nat} {F : Nat} {rz : Int32} (h : mi_X8_worst F I R = some rz) : Met l yX8_worst (Cond.code yX8_worst cX8_worst 5 (some .int) :: mc_big) ({ frames := 2, cells := 0, slots := 0, locals := 41 } : Room) (va_Pc [.ref (w.2.2.1 144)] (mc_B mc_k 152 w I R)) (mc_Q (some (.int rz)) (mc_B mc_k 152 w I R) (mc_A 152 w)) 0 0 (mc_A 152 w) := by
  refine Met.ofW (cc := cX8_worst) (maxL := 5) (ret := (some .int)) (by decide) rfl ?_
  intro p e s m args below meth c s₁ B hml hv
  obtain ⟨rfl, hP, K⟩ := hv
  have hown : s.vm.findClass RX8 = some m.cls := findClass_of_methodNamed B.named
  have C : CallFix p m c cX8_worst 5 s _ mc_big RX8 := ⟨B.exec, B.bytes, hml, hown, fun w hw => atoms_spec B.pre w (List.mem_cons_of_mem _ hw)⟩
  have hx := C.1
  have hb := C.2.1
  have hC := And.intro C.1 C.2.1
  have hr := B.returns
  have hlk := B.notSynchronized
  have hS : va_S (mc_A 152 w) s.heap s.heap [] := va_S.rf
  have hl := lv_entry ([.ref (w.2.2.1 144)]) (n := 5) (Nat.le_of_ble_eq_true rfl)
  rw [lg_entry_eq]
  generalize (lg_sl ([.ref (w.2.2.1 144)]) ++ List.replicate (5 - (lg_sl ([.ref (w.2.2.1 144)])).length) Slot.unset).toArray = ls at hl ⊢
  have hl : lv_has ls 5 [(0, .ref (w.2.2.1 144))] := hl
  unfold mi_X8_worst at h
  refine lv_sipush (v := (-1005)) hx hb dX8_worst_0 (by decide) ?_
  refine lv_istore_n (i := 1) (lv' := [(1, .int (-1005)), (0, .ref (w.2.2.1 144))]) hx hb dX8_worst_3 rfl hl (by decide) rfl (fun ls hl => ?_)
  refine lv_iconst (v := (-1)) hx hb dX8_worst_4 (by decide) ?_
  refine lv_istore_n (i := 2) (lv' := [(2, .int (-1)), (1, .int (-1005)), (0, .ref (w.2.2.1 144))]) hx hb dX8_worst_5 rfl hl (by decide) rfl (fun ls hl => ?_)
  refine lv_iconst (v := 0) hx hb dX8_worst_6 (by decide) ?_
  refine lv_istore_n (i := 3) (lv' := [(3, .int 0), (2, .int (-1)), (1, .int (-1005)), (0, .ref (w.2.2.1 144))]) hx hb dX8_worst_7 rfl hl (by decide) rfl (fun ls hl => ?_)
  exact bk_X8_worst_L8 C hr hlk K  F (-1005) (-1) 0 h  hP hS (lv_sub hl [3, 2, 1, 0] rfl)
set_option maxHeartbeats 4000000 in
set_option maxRecDepth 100000 in
theorem ct_X8_countOnCable (l : Launch) {w : mc_w} {I : Nat → Nat → Int32} {R : Nat → Nat → Option Nat} {F : Nat} {v1 : Int32} {rz : Int32} (h : mi_X8_countOnCable F I R v1 = some rz) : Met l yX8_countOnCable (Cond.code yX8_countOnCable cX8_countOnCable 2 (some .int) :: mc_big) ({ frames := 4, cells := 0, slots := 0, locals := 85 } : Room) (va_Pc [.ref (w.2.2.1 144), .int v1] (mc_B mc_k 152 w I R)) (mc_Q (some (.int rz)) (mc_B mc_k 152 w I R) (mc_A 152 w)) 0 0 (mc_A 152 w) := by
  refine Met.ofW (cc := cX8_countOnCable) (maxL := 2) (ret := (some .int)) (by decide) rfl ?_
  intro p e s m args below meth c s₁ B hml hv
  obtain ⟨rfl, hP, K⟩ := hv
  have hown : s.vm.findClass RX8 = some m.cls := findClass_of_methodNamed B.named
  have C : CallFix p m c cX8_countOnCable 2 s _ mc_big RX8 := ⟨B.exec, B.bytes, hml, hown, fun w hw => atoms_spec B.pre w (List.mem_cons_of_mem _ hw)⟩
  have hx := C.1
  have hb := C.2.1
  have hC := And.intro C.1 C.2.1
  have hr := B.returns
  have hlk := B.notSynchronized
  have hS : va_S (mc_A 152 w) s.heap s.heap [] := va_S.rf
  have hl := lv_entry ([.ref (w.2.2.1 144), .int v1]) (n := 2) (Nat.le_of_ble_eq_true rfl)
  rw [lg_entry_eq]
  generalize (lg_sl ([.ref (w.2.2.1 144), .int v1]) ++ List.replicate (2 - (lg_sl ([.ref (w.2.2.1 144), .int v1])).length) Slot.unset).toArray = ls at hl ⊢
  have hl : lv_has ls 2 [(0, .ref (w.2.2.1 144)), (1, .int v1)] := hl
  unfold mi_X8_countOnCable at h
  refine lv_iload_n hx hb dX8_countOnCable_0 rfl (lv_at hl 1 rfl) ?_
  by_cases c1 : v1 = 0
  · replace h := mc_it h c1
    refine lv_tableIn (off := 47) (tgt := 48) hx hb dX8_countOnCable_1 (by rw [c1]; decide) (by rw [c1]; decide) (by rw [c1]; decide) (by decide) ?_
    refine lv_aload_n hx hb dX8_countOnCable_48 rfl (lv_at hl 0 rfl) ?_
    refine mf_X8_10 C K hP kf_144 dX8_countOnCable_49 ?_
    refine mf_X8_280 C K hP kf_0 dX8_countOnCable_52 ?_
    cases h
    exact mt_i hC hr hlk K hP hS dX8_countOnCable_55
  replace h := mc_ie h c1
  by_cases c2 : v1 = 1
  · replace h := mc_it h c2
    refine lv_tableIn (off := 55) (tgt := 56) hx hb dX8_countOnCable_1 (by rw [c2]; decide) (by rw [c2]; decide) (by rw [c2]; decide) (by decide) ?_
    refine lv_aload_n hx hb dX8_countOnCable_56 rfl (lv_at hl 0 rfl) ?_
    refine mf_X8_10 C K hP kf_144 dX8_countOnCable_57 ?_
    refine mf_X8_174 C K hP kf_0 dX8_countOnCable_60 ?_
    refine mf_X8_283 C K hP (kk_5_1 kf_0) dX8_countOnCable_63 ?_
    cases h
    exact mt_i hC hr hlk K hP hS dX8_countOnCable_66
  replace h := mc_ie h c2
  by_cases c3 : v1 = 2
  · replace h := mc_it h c3
    refine lv_tableIn (off := 66) (tgt := 67) hx hb dX8_countOnCable_1 (by rw [c3]; decide) (by rw [c3]; decide) (by rw [c3]; decide) (by decide) ?_
    refine lv_aload_n hx hb dX8_countOnCable_67 rfl (lv_at hl 0 rfl) ?_
    refine mf_X8_10 C K hP kf_144 dX8_countOnCable_68 ?_
    refine mf_X8_174 C K hP kf_0 dX8_countOnCable_71 ?_
    refine mf_X8_286 C K hP (kk_5_1 kf_0) dX8_countOnCable_74 ?_
    cases h
    exact mt_i hC hr hlk K hP hS dX8_countOnCable_77
  replace h := mc_ie h c3
  by_cases c4 : v1 = 3
  · replace h := mc_it h c4
    refine lv_tableIn (off := 77) (tgt := 78) hx hb dX8_countOnCable_1 (by rw [c4]; decide) (by rw [c4]; decide) (by rw [c4]; decide) (by decide) ?_
    refine lv_aload_n hx hb dX8_countOnCable_78 rfl (lv_at hl 0 rfl) ?_
    refine mf_X8_10 C K hP kf_144 dX8_countOnCable_79 ?_
    refine mf_X8_174 C K hP kf_0 dX8_countOnCable_82 ?_
    refine mg_Vi (As := []) (rest := []) (ct_X1_countedSlope l (w := w) (I := I) (R := R) (kk_5_1 kf_0) rfl) C K hP hS hl.1 (kk_5_1 kf_0) (by decide) rfl rfl ml_X8_289 wy_X1_countedSlope wd_X1_countedSlope rfl rfl rfl ⟨Nat.le_of_ble_eq_true rfl, Nat.le_of_ble_eq_true rfl⟩ (Nat.le_of_ble_eq_true rfl) ⟨Nat.zero_le _, Nat.zero_le _⟩ dX8_countOnCable_85 (fun H locs hP hS => ?_)
    cases h
    exact mt_i hC hr hlk K hP hS dX8_countOnCable_88
  replace h := mc_ie h c4
  by_cases c6 : v1 = 4
  · replace h := mc_it h c6
    refine lv_tableIn (off := 88) (tgt := 89) hx hb dX8_countOnCable_1 (by rw [c6]; decide) (by rw [c6]; decide) (by rw [c6]; decide) (by decide) ?_
    refine lv_aload_n hx hb dX8_countOnCable_89 rfl (lv_at hl 0 rfl) ?_
    refine mf_X8_10 C K hP kf_144 dX8_countOnCable_90 ?_
    refine mf_X8_174 C K hP kf_0 dX8_countOnCable_93 ?_
    refine mf_X8_292 C K hP (kk_5_1 kf_0) dX8_countOnCable_96 ?_
    refine lv_if_eq (tgt := 106) hx hb dX8_countOnCable_99 (by decide) (fun c7 => ?_) (fun c7 => ?_)
    · replace h := mc_it h c7
      refine lv_iconst (v := 0) hx hb dX8_countOnCable_106 (by decide) ?_
      cases h
      exact mt_i hC hr hlk K hP hS dX8_countOnCable_107
    · replace h := mc_ie h c7
      refine lv_iconst (v := 1) hx hb dX8_countOnCable_102 (by decide) ?_
      refine lv_goto (tgt := 107) hx hb dX8_countOnCable_103 (by decide) ?_
      cases h
      exact mt_i hC hr hlk K hP hS dX8_countOnCable_107
  replace h := mc_ie h c6
  by_cases c8 : v1 = 5
  · replace h := mc_it h c8
    refine lv_tableIn (off := 107) (tgt := 108) hx hb dX8_countOnCable_1 (by rw [c8]; decide) (by rw [c8]; decide) (by rw [c8]; decide) (by decide) ?_
    refine lv_aload_n hx hb dX8_countOnCable_108 rfl (lv_at hl 0 rfl) ?_
    refine mf_X8_10 C K hP kf_144 dX8_countOnCable_109 ?_
    refine mf_X8_148 C K hP kf_0 dX8_countOnCable_112 ?_
    cases h
    exact mt_i hC hr hlk K hP hS dX8_countOnCable_115
  replace h := mc_ie h c8
  by_cases c9 : v1 = 6
  · replace h := mc_it h c9
    refine lv_tableIn (off := 115) (tgt := 116) hx hb dX8_countOnCable_1 (by rw [c9]; decide) (by rw [c9]; decide) (by rw [c9]; decide) (by decide) ?_
    refine lv_aload_n hx hb dX8_countOnCable_116 rfl (lv_at hl 0 rfl) ?_
    refine mf_X8_10 C K hP kf_144 dX8_countOnCable_117 ?_
    obtain ⟨r10, e11, h⟩ := mc_ob_e h
    refine mg_Vi (As := []) (rest := []) (ct_X5_bottlesInWater l (w := w) (I := I) (R := R) kf_0 e11) C K hP hS hl.1 kf_0 (by decide) rfl rfl ml_X8_295 wy_X5_bottlesInWater wd_X5_bottlesInWater rfl rfl rfl ⟨Nat.le_of_ble_eq_true rfl, Nat.le_of_ble_eq_true rfl⟩ (Nat.le_of_ble_eq_true rfl) ⟨Nat.zero_le _, Nat.zero_le _⟩ dX8_countOnCable_120 (fun H locs hP hS => ?_)
    cases h
    exact mt_i hC hr hlk K hP hS dX8_countOnCable_123
  replace h := mc_ie h c9
  by_cases c12 : v1 = 7
  · replace h := mc_it h c12
    refine lv_tableIn (off := 123) (tgt := 124) hx hb dX8_countOnCable_1 (by rw [c12]; decide) (by rw [c12]; decide) (by rw [c12]; decide) (by decide) ?_
    refine lv_aload_n hx hb dX8_countOnCable_124 rfl (lv_at hl 0 rfl) ?_
    refine mf_X8_10 C K hP kf_144 dX8_countOnCable_125 ?_
    obtain ⟨r13, e14, h⟩ := mc_ob_e h
    refine mg_Vi (As := []) (rest := []) (ct_X5_shutBottles l (w := w) (I := I) (R := R) kf_0 e14) C K hP hS hl.1 kf_0 (by decide) rfl rfl ml_X8_298 wy_X5_shutBottles wd_X5_shutBottles rfl rfl rfl ⟨Nat.le_of_ble_eq_true rfl, Nat.le_of_ble_eq_true rfl⟩ (Nat.le_of_ble_eq_true rfl) ⟨Nat.zero_le _, Nat.zero_le _⟩ dX8_countOnCable_128 (fun H locs hP hS => ?_)
    cases h
    exact mt_i hC hr hlk K hP hS dX8_countOnCable_131
  replace h := mc_ie h c12
  refine lv_tableOut (tgt := 132) hx hb dX8_countOnCable_1 (mc_sw (lo := 0) (hi := 7) (fun v h1 h2 => by rcases (show v = 0 ∨ v = 1 ∨ v = 2 ∨ v = 3 ∨ v = 4 ∨ v = 5 ∨ v = 6 ∨ v = 7 by omega) with rfl | rfl | rfl | rfl | rfl | rfl | rfl | rfl <;> first | exact ⟨0, by decide, c1⟩ | exact ⟨1, by decide, c2⟩ | exact ⟨2, by decide, c3⟩ | exact ⟨3, by decide, c4⟩ | exact ⟨4, by decide, c6⟩ | exact ⟨5, by decide, c8⟩ | exact ⟨6, by decide, c9⟩ | exact ⟨7, by decide, c12⟩)) (by decide) ?_
  refine lv_aload_n hx hb dX8_countOnCable_132 rfl (lv_at hl 0 rfl) ?_
  refine mf_X8_10 C K hP kf_144 dX8_countOnCable_133 ?_
  obtain ⟨r15, e16, h⟩ := mc_ob_e h
  refine mg_Vi (As := []) (rest := []) (ct_X5_doubtfulBottles l (w := w) (I := I) (R := R) kf_0 e16) C K hP hS hl.1 kf_0 (by decide) rfl rfl ml_X8_301 wy_X5_doubtfulBottles wd_X5_doubtfulBottles rfl rfl rfl ⟨Nat.le_of_ble_eq_true rfl, Nat.le_of_ble_eq_true rfl⟩ (Nat.le_of_ble_eq_true rfl) ⟨Nat.zero_le _, Nat.zero_le _⟩ dX8_countOnCable_136 (fun H locs hP hS => ?_)
  cases h
  exact mt_i hC hr hlk K hP hS dX8_countOnCable_139
set_option maxHeartbeats 4000000 in
set_option maxRecDepth 100000 in
theorem ct_X8_countOthers (l : Launch) {w : mc_w} {I : Nat → Nat → Int32} {R : Nat → Nat → Option Nat} {v1 : Int32} {rz : Int32} (h : mi_X8_countOthers I v1 = rz) : Met l yX8_countOthers (Cond.code yX8_countOthers cX8_countOthers 2 (some .int) :: mc_big) ({ frames := 0, cells := 0, slots := 0, locals := 0 } : Room) (va_Pc [.ref (w.2.2.1 144), .int v1] (mc_B mc_k 152 w I R)) (mc_Q (some (.int rz)) (mc_B mc_k 152 w I R) (mc_A 152 w)) 0 0 (mc_A 152 w) := by
  refine Met.ofW (cc := cX8_countOthers) (maxL := 2) (ret := (some .int)) (by decide) rfl ?_
  intro p e s m args below meth c s₁ B hml hv
  obtain ⟨rfl, hP, K⟩ := hv
  have hown : s.vm.findClass RX8 = some m.cls := findClass_of_methodNamed B.named
  have C : CallFix p m c cX8_countOthers 2 s _ mc_big RX8 := ⟨B.exec, B.bytes, hml, hown, fun w hw => atoms_spec B.pre w (List.mem_cons_of_mem _ hw)⟩
  have hx := C.1
  have hb := C.2.1
  have hC := And.intro C.1 C.2.1
  have hr := B.returns
  have hlk := B.notSynchronized
  have hS : va_S (mc_A 152 w) s.heap s.heap [] := va_S.rf
  have hl := lv_entry ([.ref (w.2.2.1 144), .int v1]) (n := 2) (Nat.le_of_ble_eq_true rfl)
  rw [lg_entry_eq]
  generalize (lg_sl ([.ref (w.2.2.1 144), .int v1]) ++ List.replicate (2 - (lg_sl ([.ref (w.2.2.1 144), .int v1])).length) Slot.unset).toArray = ls at hl ⊢
  have hl : lv_has ls 2 [(0, .ref (w.2.2.1 144)), (1, .int v1)] := hl
  unfold mi_X8_countOthers at h
  refine lv_iload_n hx hb dX8_countOthers_0 rfl (lv_at hl 1 rfl) ?_
  by_cases c1 : v1 = 9
  · replace h := mc_it h c1
    refine lv_tableIn (off := 51) (tgt := 52) hx hb dX8_countOthers_1 (by rw [c1]; decide) (by rw [c1]; decide) (by rw [c1]; decide) (by decide) ?_
    refine lv_aload_n hx hb dX8_countOthers_52 rfl (lv_at hl 0 rfl) ?_
    refine mf_X8_10 C K hP kf_144 dX8_countOthers_53 ?_
    refine mf_X8_162 C K hP kf_0 dX8_countOthers_56 ?_
    refine mf_X8_166 C K hP (kk_5_5 kf_0) dX8_countOthers_59 ?_
    cases h
    exact mt_i hC hr hlk K hP hS dX8_countOthers_62
  replace h := mc_ie h c1
  by_cases c2 : v1 = 10
  · replace h := mc_it h c2
    refine lv_tableIn (off := 62) (tgt := 63) hx hb dX8_countOthers_1 (by rw [c2]; decide) (by rw [c2]; decide) (by rw [c2]; decide) (by decide) ?_
    refine lv_aload_n hx hb dX8_countOthers_63 rfl (lv_at hl 0 rfl) ?_
    refine mf_X8_10 C K hP kf_144 dX8_countOthers_64 ?_
    refine mf_X8_162 C K hP kf_0 dX8_countOthers_67 ?_
    refine mf_X8_304 C K hP (kk_5_5 kf_0) dX8_countOthers_70 ?_
    cases h
    exact mt_i hC hr hlk K hP hS dX8_countOthers_73
  replace h := mc_ie h c2
  by_cases c3 : v1 = 11
  · replace h := mc_it h c3
    refine lv_tableIn (off := 73) (tgt := 74) hx hb dX8_countOthers_1 (by rw [c3]; decide) (by rw [c3]; decide) (by rw [c3]; decide) (by decide) ?_
    refine lv_aload_n hx hb dX8_countOthers_74 rfl (lv_at hl 0 rfl) ?_
    refine mf_X8_10 C K hP kf_144 dX8_countOthers_75 ?_
    refine mf_X8_162 C K hP kf_0 dX8_countOthers_78 ?_
    refine mf_X8_306 C K hP (kk_5_5 kf_0) dX8_countOthers_81 ?_
    cases h
    exact mt_i hC hr hlk K hP hS dX8_countOthers_84
  replace h := mc_ie h c3
  by_cases c4 : v1 = 12
  · replace h := mc_it h c4
    refine lv_tableIn (off := 84) (tgt := 85) hx hb dX8_countOthers_1 (by rw [c4]; decide) (by rw [c4]; decide) (by rw [c4]; decide) (by decide) ?_
    refine lv_aload_n hx hb dX8_countOthers_85 rfl (lv_at hl 0 rfl) ?_
    refine mf_X8_10 C K hP kf_144 dX8_countOthers_86 ?_
    refine mf_X8_162 C K hP kf_0 dX8_countOthers_89 ?_
    refine mf_X8_309 C K hP (kk_5_5 kf_0) dX8_countOthers_92 ?_
    cases h
    exact mt_i hC hr hlk K hP hS dX8_countOthers_95
  replace h := mc_ie h c4
  by_cases c5 : v1 = 13
  · replace h := mc_it h c5
    refine lv_tableIn (off := 95) (tgt := 96) hx hb dX8_countOthers_1 (by rw [c5]; decide) (by rw [c5]; decide) (by rw [c5]; decide) (by decide) ?_
    refine lv_aload_n hx hb dX8_countOthers_96 rfl (lv_at hl 0 rfl) ?_
    refine mf_X8_10 C K hP kf_144 dX8_countOthers_97 ?_
    refine mf_X8_162 C K hP kf_0 dX8_countOthers_100 ?_
    refine mf_X8_312 C K hP (kk_5_5 kf_0) dX8_countOthers_103 ?_
    cases h
    exact mt_i hC hr hlk K hP hS dX8_countOthers_106
  replace h := mc_ie h c5
  by_cases c6 : v1 = 14
  · replace h := mc_it h c6
    refine lv_tableIn (off := 106) (tgt := 107) hx hb dX8_countOthers_1 (by rw [c6]; decide) (by rw [c6]; decide) (by rw [c6]; decide) (by decide) ?_
    refine lv_aload_n hx hb dX8_countOthers_107 rfl (lv_at hl 0 rfl) ?_
    refine mf_X8_10 C K hP kf_144 dX8_countOthers_108 ?_
    refine mf_X8_162 C K hP kf_0 dX8_countOthers_111 ?_
    refine mf_X8_315 C K hP (kk_5_5 kf_0) dX8_countOthers_114 ?_
    cases h
    exact mt_i hC hr hlk K hP hS dX8_countOthers_117
  replace h := mc_ie h c6
  by_cases c7 : v1 = 15
  · replace h := mc_it h c7
    refine lv_tableIn (off := 117) (tgt := 118) hx hb dX8_countOthers_1 (by rw [c7]; decide) (by rw [c7]; decide) (by rw [c7]; decide) (by decide) ?_
    refine lv_aload_n hx hb dX8_countOthers_118 rfl (lv_at hl 0 rfl) ?_
    refine mf_X8_10 C K hP kf_144 dX8_countOthers_119 ?_
    refine mf_X8_318 C K hP kf_0 dX8_countOthers_122 ?_
    cases h
    exact mt_i hC hr hlk K hP hS dX8_countOthers_125
  replace h := mc_ie h c7
  by_cases c8 : v1 = 16
  · replace h := mc_it h c8
    refine lv_tableIn (off := 125) (tgt := 126) hx hb dX8_countOthers_1 (by rw [c8]; decide) (by rw [c8]; decide) (by rw [c8]; decide) (by decide) ?_
    refine lv_aload_n hx hb dX8_countOthers_126 rfl (lv_at hl 0 rfl) ?_
    refine mf_X8_10 C K hP kf_144 dX8_countOthers_127 ?_
    refine mf_X8_321 C K hP kf_0 dX8_countOthers_130 ?_
    cases h
    exact mt_i hC hr hlk K hP hS dX8_countOthers_133
  replace h := mc_ie h c8
  by_cases c9 : v1 = 17
  · replace h := mc_it h c9
    refine lv_tableIn (off := 133) (tgt := 134) hx hb dX8_countOthers_1 (by rw [c9]; decide) (by rw [c9]; decide) (by rw [c9]; decide) (by decide) ?_
    refine lv_aload_n hx hb dX8_countOthers_134 rfl (lv_at hl 0 rfl) ?_
    refine mf_X8_28 C K hP kf_144 dX8_countOthers_135 ?_
    refine mf_X8_142 C K hP kf_145 dX8_countOthers_138 ?_
    cases h
    exact mt_i hC hr hlk K hP hS dX8_countOthers_141
  replace h := mc_ie h c9
  refine lv_tableOut (tgt := 142) hx hb dX8_countOthers_1 (mc_sw (lo := 9) (hi := 17) (fun v h1 h2 => by rcases (show v = 9 ∨ v = 10 ∨ v = 11 ∨ v = 12 ∨ v = 13 ∨ v = 14 ∨ v = 15 ∨ v = 16 ∨ v = 17 by omega) with rfl | rfl | rfl | rfl | rfl | rfl | rfl | rfl | rfl <;> first | exact ⟨9, by decide, c1⟩ | exact ⟨10, by decide, c2⟩ | exact ⟨11, by decide, c3⟩ | exact ⟨12, by decide, c4⟩ | exact ⟨13, by decide, c5⟩ | exact ⟨14, by decide, c6⟩ | exact ⟨15, by decide, c7⟩ | exact ⟨16, by decide, c8⟩ | exact ⟨17, by decide, c9⟩)) (by decide) ?_
  refine lv_aload_n hx hb dX8_countOthers_142 rfl (lv_at hl 0 rfl) ?_
  refine mf_X8_35 C K hP kf_144 dX8_countOthers_143 ?_
  refine mf_X8_95 C K hP kf_147 dX8_countOthers_146 ?_
  cases h
  exact mt_i hC hr hlk K hP hS dX8_countOthers_149
set_option maxHeartbeats 4000000 in
set_option maxRecDepth 100000 in
theorem ct_X8_count (l : Launch) {w : mc_w} {I : Nat → Nat → Int32} {R : Nat → Nat → Option Nat} {F : Nat} {v1 : Int32} {rz : Int32} (h : mi_X8_count F I R v1 = some rz) : Met l yX8_count (Cond.code yX8_count cX8_count 2 (some .int) :: mc_big) ({ frames := 5, cells := 0, slots := 0, locals := 106 } : Room) (va_Pc [.ref (w.2.2.1 144), .int v1] (mc_B mc_k 152 w I R)) (mc_Q (some (.int rz)) (mc_B mc_k 152 w I R) (mc_A 152 w)) 0 0 (mc_A 152 w) := by
  refine Met.ofW (cc := cX8_count) (maxL := 2) (ret := (some .int)) (by decide) rfl ?_
  intro p e s m args below meth c s₁ B hml hv
  obtain ⟨rfl, hP, K⟩ := hv
  have hown : s.vm.findClass RX8 = some m.cls := findClass_of_methodNamed B.named
  have C : CallFix p m c cX8_count 2 s _ mc_big RX8 := ⟨B.exec, B.bytes, hml, hown, fun w hw => atoms_spec B.pre w (List.mem_cons_of_mem _ hw)⟩
  have hx := C.1
  have hb := C.2.1
  have hC := And.intro C.1 C.2.1
  have hr := B.returns
  have hlk := B.notSynchronized
  have hS : va_S (mc_A 152 w) s.heap s.heap [] := va_S.rf
  have hl := lv_entry ([.ref (w.2.2.1 144), .int v1]) (n := 2) (Nat.le_of_ble_eq_true rfl)
  rw [lg_entry_eq]
  generalize (lg_sl ([.ref (w.2.2.1 144), .int v1]) ++ List.replicate (2 - (lg_sl ([.ref (w.2.2.1 144), .int v1])).length) Slot.unset).toArray = ls at hl ⊢
  have hl : lv_has ls 2 [(0, .ref (w.2.2.1 144)), (1, .int v1)] := hl
  unfold mi_X8_count at h
  refine lv_iload_n hx hb dX8_count_0 rfl (lv_at hl 1 rfl) ?_
  refine lv_if_lt (tgt := 10) hx hb dX8_count_1 (by decide) (fun c1 => ?_) (fun c1 => ?_)
  · replace h := mc_it h c1
    refine lv_sipush (v := (-1002)) hx hb dX8_count_10 (by decide) ?_
    cases h
    exact mt_i hC hr hlk K hP hS dX8_count_13
  · replace h := mc_ie h c1
    refine lv_iload_n hx hb dX8_count_4 rfl (lv_at hl 1 rfl) ?_
    refine lv_bipush (v := 18) hx hb dX8_count_5 (by decide) ?_
    refine lv_icmp_le (tgt := 14) hx hb dX8_count_7 (by decide) (fun c2 => ?_) (fun c2 => ?_)
    · replace h := mc_it h c2
      refine lv_iload_n hx hb dX8_count_14 rfl (lv_at hl 1 rfl) ?_
      refine lv_bipush (v := 8) hx hb dX8_count_15 (by decide) ?_
      refine lv_icmp_gt (tgt := 28) hx hb dX8_count_17 (by decide) (fun c3 => ?_) (fun c3 => ?_)
      · replace h := mc_it h c3
        refine lv_aload_n hx hb dX8_count_28 rfl (lv_at hl 0 rfl) ?_
        refine lv_iload_n hx hb dX8_count_29 rfl (lv_at hl 1 rfl) ?_
        refine mg_Vi (As := [.int v1]) (rest := []) (ct_X8_countOthers l (w := w) (I := I) (R := R) rfl) C K hP hS hl.1 kf_144 (by decide) rfl rfl ml_X8_231 wy_X8_countOthers wd_X8_countOthers rfl rfl rfl ⟨Nat.le_of_ble_eq_true rfl, Nat.le_of_ble_eq_true rfl⟩ (Nat.le_of_ble_eq_true rfl) ⟨Nat.zero_le _, Nat.zero_le _⟩ dX8_count_30 (fun H locs hP hS => ?_)
        cases h
        exact mt_i hC hr hlk K hP hS dX8_count_33
      · replace h := mc_ie h c3
        refine lv_aload_n hx hb dX8_count_20 rfl (lv_at hl 0 rfl) ?_
        refine lv_iload_n hx hb dX8_count_21 rfl (lv_at hl 1 rfl) ?_
        obtain ⟨r5, e6, h⟩ := mc_ob_e h
        refine mg_Vi (As := [.int v1]) (rest := []) (ct_X8_countOnCable l (w := w) (I := I) (R := R) e6) C K hP hS hl.1 kf_144 (by decide) rfl rfl ml_X8_228 wy_X8_countOnCable wd_X8_countOnCable rfl rfl rfl ⟨Nat.le_of_ble_eq_true rfl, Nat.le_of_ble_eq_true rfl⟩ (Nat.le_of_ble_eq_true rfl) ⟨Nat.zero_le _, Nat.zero_le _⟩ dX8_count_22 (fun H locs hP hS => ?_)
        refine lv_goto (tgt := 33) hx hb dX8_count_25 (by decide) ?_
        cases h
        exact mt_i hC hr hlk K hP hS dX8_count_33
    · replace h := mc_ie h c2
      refine lv_sipush (v := (-1002)) hx hb dX8_count_10 (by decide) ?_
      cases h
      exact mt_i hC hr hlk K hP hS dX8_count_13

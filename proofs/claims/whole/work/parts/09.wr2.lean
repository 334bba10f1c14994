set_option maxHeartbeats 4000000 in
set_option maxRecDepth 100000 in
theorem bk_X9_waters_J87 {p : Program} {l : Launch} {e : Env} {s : State} {m : MethodId} {args : Array Value} {below : List Frame} {meth : Method} {c : Code} (C : CallFix p m c cX9_waters 7 s args mc_big RX9) (hr : meth.sig.returnType = (some .int)) (hlk : meth.locks = false) {w : mc_w} (K : mc_K mr_k 3 w s) {R : Nat → Nat → Option Nat} {Iz : Nat → Nat → Int32} {rz : Int32} : ∀ (I : Nat → Nat → Int32) (v2 : Int32) (v3 : Int32) (v4 : Int32) (v5 : Int32) (s0 : Int32), mi_X9_waters_J87 I v2 v3 v4 v5 s0 = some (Iz, rz) → ∀ {H : Heap} {locs : List Loc} {ls : Array Slot}, mc_P mr_k 3 w I R H → va_S (mc_A 3 w) s.heap H locs → lv_has ls 7 [(0, .ref (w.2.2.1 0)), (2, .int v2), (3, .int v3), (4, .int v4), (5, .int v5)] → W p l e ({ frames := 1, cells := 0, slots := 0, locals := 22 } : Room) s m args below meth c H locs 0 0 (MQ below (mc_Q (some (.int rz)) (mc_B mr_k 3 w Iz R) (mc_A 3 w)) args s 0 0 (mc_A 3 w)) (F0 m 87 ls [.int s0]) := by
  intro I v2 v3 v4 v5 s0 h  H locs ls hP hS hl
  have hx := C.1
  have hb := C.2.1
  have hC := And.intro C.1 C.2.1
  unfold mi_X9_waters_J87 at h
  refine lv_istore (i := 6) (lv' := [(6, .int s0), (0, .ref (w.2.2.1 0)), (2, .int v2), (3, .int v3), (4, .int v4), (5, .int v5)]) hx hb dX9_waters_87 hl (by decide) rfl (fun ls hl => ?_)
  refine lv_aload_n hx hb dX9_waters_89 rfl (lv_at hl 1 rfl) ?_
  refine mf_X9_7 C K hP kr_0 dX9_waters_90 ?_
  refine lv_iload hx hb dX9_waters_93 (lv_at hl 4 rfl) ?_
  refine lv_iload_n hx hb dX9_waters_95 rfl (lv_at hl 2 rfl) ?_
  obtain ⟨g15, h⟩ := mc_gd h
  obtain ⟨I16, eI16, h⟩ := mc_bn_e h
  refine ma_s16 hC K hP hS kr_1 g15 eI16 dX9_waters_96 (fun H locs hP hS => ?_)
  refine lv_aload_n hx hb dX9_waters_97 rfl (lv_at hl 1 rfl) ?_
  refine mf_X9_7 C K hP kr_0 dX9_waters_98 ?_
  refine lv_iload hx hb dX9_waters_101 (lv_at hl 4 rfl) ?_
  refine lv_iconst (v := 1) hx hb dX9_waters_103 (by decide) ?_
  refine lv_iadd hx hb dX9_waters_104 ?_
  refine lv_iload_n hx hb dX9_waters_105 rfl (lv_at hl 3 rfl) ?_
  obtain ⟨g17, h⟩ := mc_gd h
  obtain ⟨I18, eI18, h⟩ := mc_bn_e h
  refine ma_s16 hC K hP hS kr_1 g17 eI18 dX9_waters_106 (fun H locs hP hS => ?_)
  refine lv_iload hx hb dX9_waters_107 (lv_at hl 0 rfl) ?_
  refine lv_if_eq (tgt := 118) hx hb dX9_waters_109 (by decide) (fun c19 => ?_) (fun c19 => ?_)
  · replace h := mc_it h c19
    refine lv_iload hx hb dX9_waters_118 (lv_at hl 5 rfl) ?_
    cases h
    exact mt_i hC hr hlk K hP hS dX9_waters_120
  · replace h := mc_ie h c19
    refine lv_sipush (v := (-1005)) hx hb dX9_waters_112 (by decide) ?_
    refine lv_goto (tgt := 120) hx hb dX9_waters_115 (by decide) ?_
    cases h
    exact mt_i hC hr hlk K hP hS dX9_waters_120
set_option maxHeartbeats 4000000 in
set_option maxRecDepth 100000 in
theorem ct_X9_waters (l : Launch) {w : mc_w} {I : Nat → Nat → Int32} {R : Nat → Nat → Option Nat} {v1 : Int32} {v2 : Int32} {v3 : Int32} {Iz : Nat → Nat → Int32} {rz : Int32} (h : mi_X9_waters I v1 v2 v3 = some (Iz, rz)) : Met l yX9_waters (Cond.code yX9_waters cX9_waters 7 (some .int) :: mc_big) ({ frames := 1, cells := 0, slots := 0, locals := 22 } : Room) (va_Pc [.ref (w.2.2.1 0), .int v1, .int v2, .int v3] (mc_B mr_k 3 w I R)) (mc_Q (some (.int rz)) (mc_B mr_k 3 w Iz R) (mc_A 3 w)) 0 0 (mc_A 3 w) := by
  refine Met.ofW (cc := cX9_waters) (maxL := 7) (ret := (some .int)) (by decide) rfl ?_
  intro p e s m args below meth c s₁ B hml hv
  obtain ⟨rfl, hP, K⟩ := hv
  have hown : s.vm.findClass RX9 = some m.cls := findClass_of_methodNamed B.named
  have C : CallFix p m c cX9_waters 7 s _ mc_big RX9 := ⟨B.exec, B.bytes, hml, hown, fun w hw => atoms_spec B.pre w (List.mem_cons_of_mem _ hw)⟩
  have hx := C.1
  have hb := C.2.1
  have hC := And.intro C.1 C.2.1
  have hr := B.returns
  have hlk := B.notSynchronized
  have hS : va_S (mc_A 3 w) s.heap s.heap [] := va_S.rf
  have hl := lv_entry ([.ref (w.2.2.1 0), .int v1, .int v2, .int v3]) (n := 7) (Nat.le_of_ble_eq_true rfl)
  rw [lg_entry_eq]
  generalize (lg_sl ([.ref (w.2.2.1 0), .int v1, .int v2, .int v3]) ++ List.replicate (7 - (lg_sl ([.ref (w.2.2.1 0), .int v1, .int v2, .int v3])).length) Slot.unset).toArray = ls at hl ⊢
  have hl : lv_has ls 7 [(0, .ref (w.2.2.1 0)), (1, .int v1), (2, .int v2), (3, .int v3)] := hl
  unfold mi_X9_waters at h
  refine lv_iload_n hx hb dX9_waters_0 rfl (lv_at hl 1 rfl) ?_
  refine lv_iconst (v := 0) hx hb dX9_waters_1 (by decide) ?_
  refine lv_bipush (v := 9) hx hb dX9_waters_2 (by decide) ?_
  refine mg_Sz (As := [.int v1, .int 0, .int 9]) (rest := []) (ct_X9_in l (w := w) (I := I) (R := R) rfl) C K hP hS hl.1 ml_X9_81 wy_X9_in wd_X9_in rfl rfl rfl ⟨Nat.le_of_ble_eq_true rfl, Nat.le_of_ble_eq_true rfl⟩ (Nat.le_of_ble_eq_true rfl) ⟨Nat.zero_le _, Nat.zero_le _⟩ dX9_waters_4 (fun H locs hP z2 hS => ?_)
  refine lv_if_ne (tgt := 14) hx hb dX9_waters_7 (by decide) (fun c3 => ?_) (fun c3 => ?_)
  · replace h := mc_ie h c3
    refine lv_iload_n hx hb dX9_waters_14 rfl (lv_at hl 2 rfl) ?_
    refine lv_bipush (v := (-20)) hx hb dX9_waters_15 (by decide) ?_
    refine lv_sipush (v := 300) hx hb dX9_waters_17 (by decide) ?_
    refine mg_Sz (As := [.int v2, .int (-20), .int 300]) (rest := []) (ct_X9_in l (w := w) (I := I) (R := R) rfl) C K hP hS hl.1 ml_X9_81 wy_X9_in wd_X9_in rfl rfl rfl ⟨Nat.le_of_ble_eq_true rfl, Nat.le_of_ble_eq_true rfl⟩ (Nat.le_of_ble_eq_true rfl) ⟨Nat.zero_le _, Nat.zero_le _⟩ dX9_waters_20 (fun H locs hP z5 hS => ?_)
    refine lv_if_eq (tgt := 37) hx hb dX9_waters_23 (by decide) (fun c6 => ?_) (fun c6 => ?_)
    · replace h := mc_it h c6
      refine lv_sipush (v := (-1002)) hx hb dX9_waters_37 (by decide) ?_
      cases h
      exact mt_i hC hr hlk K hP hS dX9_waters_40
    · replace h := mc_ie h c6
      refine lv_iload_n hx hb dX9_waters_26 rfl (lv_at hl 3 rfl) ?_
      refine lv_iconst (v := 0) hx hb dX9_waters_27 (by decide) ?_
      refine lv_sipush (v := 420) hx hb dX9_waters_28 (by decide) ?_
      refine mg_Sz (As := [.int v3, .int 0, .int 420]) (rest := []) (ct_X9_in l (w := w) (I := I) (R := R) rfl) C K hP hS hl.1 ml_X9_81 wy_X9_in wd_X9_in rfl rfl rfl ⟨Nat.le_of_ble_eq_true rfl, Nat.le_of_ble_eq_true rfl⟩ (Nat.le_of_ble_eq_true rfl) ⟨Nat.zero_le _, Nat.zero_le _⟩ dX9_waters_31 (fun H locs hP z8 hS => ?_)
      refine lv_if_ne (tgt := 41) hx hb dX9_waters_34 (by decide) (fun c9 => ?_) (fun c9 => ?_)
      · replace h := mc_ie h c9
        refine lv_bipush (v := 13) hx hb dX9_waters_41 (by decide) ?_
        refine lv_iconst (v := 2) hx hb dX9_waters_43 (by decide) ?_
        refine lv_iload_n hx hb dX9_waters_44 rfl (lv_at hl 1 rfl) ?_
        refine lv_imul hx hb dX9_waters_45 ?_
        refine lv_iadd hx hb dX9_waters_46 ?_
        obtain ⟨x10, ex10, h⟩ := mc_bn_e h
        refine mv_top ex10 ?_
        refine lv_istore (i := 4) (lv' := [(4, .int x10), (0, .ref (w.2.2.1 0)), (1, .int v1), (2, .int v2), (3, .int v3)]) hx hb dX9_waters_47 hl (by decide) rfl (fun ls hl => ?_)
        refine lv_aload_n hx hb dX9_waters_49 rfl (lv_at hl 1 rfl) ?_
        refine mf_X9_7 C K hP kr_0 dX9_waters_50 ?_
        refine lv_iload hx hb dX9_waters_53 (lv_at hl 0 rfl) ?_
        obtain ⟨g11, h⟩ := mc_gd h
        refine ma_l16 hC K hP kr_1 g11 dX9_waters_55 ?_
        obtain ⟨x12, ex12, h⟩ := mc_bn_e h
        refine mv_top ex12 ?_
        refine lv_istore (i := 5) (lv' := [(5, .int x12), (4, .int x10), (0, .ref (w.2.2.1 0)), (1, .int v1), (2, .int v2), (3, .int v3)]) hx hb dX9_waters_56 hl (by decide) rfl (fun ls hl => ?_)
        refine lv_aload_n hx hb dX9_waters_58 rfl (lv_at hl 2 rfl) ?_
        refine mf_X9_7 C K hP kr_0 dX9_waters_59 ?_
        refine lv_iload hx hb dX9_waters_62 (lv_at hl 1 rfl) ?_
        obtain ⟨g13, h⟩ := mc_gd h
        refine ma_l16 hC K hP kr_1 g13 dX9_waters_64 ?_
        refine lv_iload_n hx hb dX9_waters_65 rfl (lv_at hl 4 rfl) ?_
        refine lv_icmp_ne (tgt := 86) hx hb dX9_waters_66 (by decide) (fun c14 => ?_) (fun c14 => ?_)
        · replace h := mc_ie h c14
          refine lv_iconst (v := 0) hx hb dX9_waters_86 (by decide) ?_
          exact bk_X9_waters_J87 C hr hlk K  I v2 v3 x10 x12 0 h  hP hS (lv_sub hl [2, 4, 5, 1, 0] rfl)
        · replace h := mc_it h c14
          refine lv_aload_n hx hb dX9_waters_69 rfl (lv_at hl 2 rfl) ?_
          refine mf_X9_7 C K hP kr_0 dX9_waters_70 ?_
          refine lv_iload hx hb dX9_waters_73 (lv_at hl 1 rfl) ?_
          refine lv_iconst (v := 1) hx hb dX9_waters_75 (by decide) ?_
          refine lv_iadd hx hb dX9_waters_76 ?_
          obtain ⟨g20, h⟩ := mc_gd h
          refine ma_l16 hC K hP kr_1 g20 dX9_waters_77 ?_
          refine lv_iload_n hx hb dX9_waters_78 rfl (lv_at hl 5 rfl) ?_
          refine lv_icmp_ne (tgt := 86) hx hb dX9_waters_79 (by decide) (fun c21 => ?_) (fun c21 => ?_)
          · replace h := mc_ie h c21
            refine lv_iconst (v := 0) hx hb dX9_waters_86 (by decide) ?_
            exact bk_X9_waters_J87 C hr hlk K  I v2 v3 x10 x12 0 h  hP hS (lv_sub hl [2, 4, 5, 1, 0] rfl)
          · replace h := mc_it h c21
            refine lv_iconst (v := 1) hx hb dX9_waters_82 (by decide) ?_
            refine lv_goto (tgt := 87) hx hb dX9_waters_83 (by decide) ?_
            exact bk_X9_waters_J87 C hr hlk K  I v2 v3 x10 x12 1 h  hP hS (lv_sub hl [2, 4, 5, 1, 0] rfl)
      · replace h := mc_it h c9
        refine lv_sipush (v := (-1002)) hx hb dX9_waters_37 (by decide) ?_
        cases h
        exact mt_i hC hr hlk K hP hS dX9_waters_40
  · replace h := mc_it h c3
    refine lv_sipush (v := (-1001)) hx hb dX9_waters_10 (by decide) ?_
    cases h
    exact mt_i hC hr hlk K hP hS dX9_waters_13
set_option maxHeartbeats 4000000 in
set_option maxRecDepth 100000 in
theorem ct_X9_sets (l : Launch) {w : mc_w} {I : Nat → Nat → Int32} {R : Nat → Nat → Option Nat} {v1 : Int32} {v2 : Int32} {Iz : Nat → Nat → Int32} {rz : Int32} (h : mi_X9_sets I v1 v2 = some (Iz, rz)) : Met l yX9_sets (Cond.code yX9_sets cX9_sets 4 (some .int) :: mc_big) ({ frames := 1, cells := 0, slots := 0, locals := 22 } : Room) (va_Pc [.ref (w.2.2.1 0), .int v1, .int v2] (mc_B mr_k 3 w I R)) (mc_Q (some (.int rz)) (mc_B mr_k 3 w Iz R) (mc_A 3 w)) 0 0 (mc_A 3 w) := by
  refine Met.ofW (cc := cX9_sets) (maxL := 4) (ret := (some .int)) (by decide) rfl ?_
  intro p e s m args below meth c s₁ B hml hv
  obtain ⟨rfl, hP, K⟩ := hv
  have hown : s.vm.findClass RX9 = some m.cls := findClass_of_methodNamed B.named
  have C : CallFix p m c cX9_sets 4 s _ mc_big RX9 := ⟨B.exec, B.bytes, hml, hown, fun w hw => atoms_spec B.pre w (List.mem_cons_of_mem _ hw)⟩
  have hx := C.1
  have hb := C.2.1
  have hC := And.intro C.1 C.2.1
  have hr := B.returns
  have hlk := B.notSynchronized
  have hS : va_S (mc_A 3 w) s.heap s.heap [] := va_S.rf
  have hl := lv_entry ([.ref (w.2.2.1 0), .int v1, .int v2]) (n := 4) (Nat.le_of_ble_eq_true rfl)
  rw [lg_entry_eq]
  generalize (lg_sl ([.ref (w.2.2.1 0), .int v1, .int v2]) ++ List.replicate (4 - (lg_sl ([.ref (w.2.2.1 0), .int v1, .int v2])).length) Slot.unset).toArray = ls at hl ⊢
  have hl : lv_has ls 4 [(0, .ref (w.2.2.1 0)), (1, .int v1), (2, .int v2)] := hl
  unfold mi_X9_sets at h
  refine lv_iload_n hx hb dX9_sets_0 rfl (lv_at hl 1 rfl) ?_
  refine lv_iconst (v := 0) hx hb dX9_sets_1 (by decide) ?_
  refine lv_iconst (v := 1) hx hb dX9_sets_2 (by decide) ?_
  refine mg_Sz (As := [.int v1, .int 0, .int 1]) (rest := []) (ct_X9_in l (w := w) (I := I) (R := R) rfl) C K hP hS hl.1 ml_X9_81 wy_X9_in wd_X9_in rfl rfl rfl ⟨Nat.le_of_ble_eq_true rfl, Nat.le_of_ble_eq_true rfl⟩ (Nat.le_of_ble_eq_true rfl) ⟨Nat.zero_le _, Nat.zero_le _⟩ dX9_sets_3 (fun H locs hP z2 hS => ?_)
  refine lv_if_ne (tgt := 13) hx hb dX9_sets_6 (by decide) (fun c3 => ?_) (fun c3 => ?_)
  · replace h := mc_ie h c3
    refine lv_iload_n hx hb dX9_sets_13 rfl (lv_at hl 2 rfl) ?_
    refine lv_iload_n hx hb dX9_sets_14 rfl (lv_at hl 1 rfl) ?_
    refine lv_sipush (v := 999) hx hb dX9_sets_15 (by decide) ?_
    refine mg_Sz (As := [.int v2, .int v1, .int 999]) (rest := []) (ct_X9_in l (w := w) (I := I) (R := R) rfl) C K hP hS hl.1 ml_X9_81 wy_X9_in wd_X9_in rfl rfl rfl ⟨Nat.le_of_ble_eq_true rfl, Nat.le_of_ble_eq_true rfl⟩ (Nat.le_of_ble_eq_true rfl) ⟨Nat.zero_le _, Nat.zero_le _⟩ dX9_sets_18 (fun H locs hP z5 hS => ?_)
    refine lv_if_ne (tgt := 28) hx hb dX9_sets_21 (by decide) (fun c6 => ?_) (fun c6 => ?_)
    · replace h := mc_ie h c6
      refine lv_aload_n hx hb dX9_sets_28 rfl (lv_at hl 0 rfl) ?_
      refine mf_X9_7 C K hP kr_0 dX9_sets_29 ?_
      refine lv_bipush (v := 11) hx hb dX9_sets_32 (by decide) ?_
      refine lv_iload_n hx hb dX9_sets_34 rfl (lv_at hl 1 rfl) ?_
      refine lv_iadd hx hb dX9_sets_35 ?_
      obtain ⟨g7, h⟩ := mc_gd h
      refine ma_l16 hC K hP kr_1 g7 dX9_sets_36 ?_
      obtain ⟨x8, ex8, h⟩ := mc_bn_e h
      refine mv_top ex8 ?_
      refine lv_istore_n (i := 3) (lv' := [(3, .int x8), (0, .ref (w.2.2.1 0)), (1, .int v1), (2, .int v2)]) hx hb dX9_sets_37 rfl hl (by decide) rfl (fun ls hl => ?_)
      refine lv_aload_n hx hb dX9_sets_38 rfl (lv_at hl 1 rfl) ?_
      refine mf_X9_7 C K hP kr_0 dX9_sets_39 ?_
      refine lv_bipush (v := 11) hx hb dX9_sets_42 (by decide) ?_
      refine lv_iload_n hx hb dX9_sets_44 rfl (lv_at hl 2 rfl) ?_
      refine lv_iadd hx hb dX9_sets_45 ?_
      refine lv_iload_n hx hb dX9_sets_46 rfl (lv_at hl 3 rfl) ?_
      obtain ⟨g9, h⟩ := mc_gd h
      obtain ⟨I10, eI10, h⟩ := mc_bn_e h
      refine ma_s16 hC K hP hS kr_1 g9 eI10 dX9_sets_47 (fun H locs hP hS => ?_)
      refine lv_iload_n hx hb dX9_sets_48 rfl (lv_at hl 0 rfl) ?_
      refine lv_iload_n hx hb dX9_sets_49 rfl (lv_at hl 3 rfl) ?_
      refine lv_icmp_ne (tgt := 59) hx hb dX9_sets_50 (by decide) (fun c11 => ?_) (fun c11 => ?_)
      · replace h := mc_ie h c11
        refine lv_iload_n hx hb dX9_sets_59 rfl (lv_at hl 0 rfl) ?_
        cases h
        exact mt_i hC hr hlk K hP hS dX9_sets_60
      · replace h := mc_it h c11
        refine lv_sipush (v := (-1005)) hx hb dX9_sets_53 (by decide) ?_
        refine lv_goto (tgt := 60) hx hb dX9_sets_56 (by decide) ?_
        cases h
        exact mt_i hC hr hlk K hP hS dX9_sets_60
    · replace h := mc_it h c6
      refine lv_sipush (v := (-1002)) hx hb dX9_sets_24 (by decide) ?_
      cases h
      exact mt_i hC hr hlk K hP hS dX9_sets_27
  · replace h := mc_it h c3
    refine lv_sipush (v := (-1001)) hx hb dX9_sets_9 (by decide) ?_
    cases h
    exact mt_i hC hr hlk K hP hS dX9_sets_12
set_option maxHeartbeats 4000000 in
set_option maxRecDepth 100000 in
theorem ct_X9_isDone (l : Launch) {w : mc_w} {I : Nat → Nat → Int32} {R : Nat → Nat → Option Nat} {v0 : Int32} {rz : Int32} (h : mi_X9_isDone v0 = rz) : Met l yX9_isDone (Cond.code yX9_isDone cX9_isDone 1 (some .boolean) :: mc_big) ({ frames := 0, cells := 0, slots := 0, locals := 0 } : Room) (va_Pc [.int v0] (mc_B mr_k 3 w I R)) (mc_Q (some (.int rz)) (fun t => mc_B mr_k 3 w I R t ∧ ¬ (rz ≠ 0 ∧ rz ≠ 1)) (mc_A 3 w)) 0 0 (mc_A 3 w) := by
  refine Met.ofW (cc := cX9_isDone) (maxL := 1) (ret := (some .boolean)) (by decide) rfl ?_
  intro p e s m args below meth c s₁ B hml hv
  obtain ⟨rfl, hP, K⟩ := hv
  have hown : s.vm.findClass RX9 = some m.cls := findClass_of_methodNamed B.named
  have C : CallFix p m c cX9_isDone 1 s _ mc_big RX9 := ⟨B.exec, B.bytes, hml, hown, fun w hw => atoms_spec B.pre w (List.mem_cons_of_mem _ hw)⟩
  have hx := C.1
  have hb := C.2.1
  have hC := And.intro C.1 C.2.1
  have hr := B.returns
  have hlk := B.notSynchronized
  have hS : va_S (mc_A 3 w) s.heap s.heap [] := va_S.rf
  have hl := lv_entry ([.int v0]) (n := 1) (Nat.le_of_ble_eq_true rfl)
  rw [lg_entry_eq]
  generalize (lg_sl ([.int v0]) ++ List.replicate (1 - (lg_sl ([.int v0])).length) Slot.unset).toArray = ls at hl ⊢
  have hl : lv_has ls 1 [(0, .int v0)] := hl
  unfold mi_X9_isDone at h
  refine lv_iload_n hx hb dX9_isDone_0 rfl (lv_at hl 0 rfl) ?_
  refine lv_sipush (v := (-1001)) hx hb dX9_isDone_1 (by decide) ?_
  refine lv_icmp_le (tgt := 11) hx hb dX9_isDone_4 (by decide) (fun c1 => ?_) (fun c1 => ?_)
  · replace h := mc_it h c1
    refine lv_iconst (v := 0) hx hb dX9_isDone_11 (by decide) ?_
    cases h
    exact mt_zX hC hr hlk K hP hS (by decide) (by decide) dX9_isDone_12
  · replace h := mc_ie h c1
    refine lv_iconst (v := 1) hx hb dX9_isDone_7 (by decide) ?_
    refine lv_goto (tgt := 12) hx hb dX9_isDone_8 (by decide) ?_
    cases h
    exact mt_zX hC hr hlk K hP hS (by decide) (by decide) dX9_isDone_12
set_option maxHeartbeats 4000000 in
set_option maxRecDepth 100000 in
theorem ct_X9_done (l : Launch) {w : mc_w} {I : Nat → Nat → Int32} {R : Nat → Nat → Option Nat} {F : Nat} {v1 : Int32} {Iz : Nat → Nat → Int32} {rz : Int32} (h : mi_X9_done F I v1 = some (Iz, rz)) : Met l yX9_done (Cond.code yX9_done cX9_done 2 (some .int) :: mc_big) ({ frames := 2, cells := 0, slots := 0, locals := 45 } : Room) (va_Pc [.ref (w.2.2.1 0), .int v1] (mc_B mr_k 3 w I R)) (mc_Q (some (.int rz)) (mc_B mr_k 3 w Iz R) (mc_A 3 w)) 0 0 (mc_A 3 w) := by
  refine Met.ofW (cc := cX9_done) (maxL := 2) (ret := (some .int)) (by decide) rfl ?_
  intro p e s m args below meth c s₁ B hml hv
  obtain ⟨rfl, hP, K⟩ := hv
  have hown : s.vm.findClass RX9 = some m.cls := findClass_of_methodNamed B.named
  have C : CallFix p m c cX9_done 2 s _ mc_big RX9 := ⟨B.exec, B.bytes, hml, hown, fun w hw => atoms_spec B.pre w (List.mem_cons_of_mem _ hw)⟩
  have hx := C.1
  have hb := C.2.1
  have hC := And.intro C.1 C.2.1
  have hr := B.returns
  have hlk := B.notSynchronized
  have hS : va_S (mc_A 3 w) s.heap s.heap [] := va_S.rf
  have hl := lv_entry ([.ref (w.2.2.1 0), .int v1]) (n := 2) (Nat.le_of_ble_eq_true rfl)
  rw [lg_entry_eq]
  generalize (lg_sl ([.ref (w.2.2.1 0), .int v1]) ++ List.replicate (2 - (lg_sl ([.ref (w.2.2.1 0), .int v1])).length) Slot.unset).toArray = ls at hl ⊢
  have hl : lv_has ls 2 [(0, .ref (w.2.2.1 0)), (1, .int v1)] := hl
  unfold mi_X9_done at h
  refine lv_iload_n hx hb dX9_done_0 rfl (lv_at hl 1 rfl) ?_
  refine mg_Sz (As := [.int v1]) (rest := []) (ct_X9_isDone l (w := w) (I := I) (R := R) rfl) C K hP hS hl.1 ml_X9_99 wy_X9_isDone wd_X9_isDone rfl rfl rfl ⟨Nat.le_of_ble_eq_true rfl, Nat.le_of_ble_eq_true rfl⟩ (Nat.le_of_ble_eq_true rfl) ⟨Nat.zero_le _, Nat.zero_le _⟩ dX9_done_1 (fun H locs hP z2 hS => ?_)
  refine lv_if_eq (tgt := 13) hx hb dX9_done_4 (by decide) (fun c3 => ?_) (fun c3 => ?_)
  · replace h := mc_it h c3
    refine lv_iload_n hx hb dX9_done_13 rfl (lv_at hl 1 rfl) ?_
    cases h
    exact mt_i hC hr hlk K hP hS dX9_done_14
  · replace h := mc_ie h c3
    refine lv_aload_n hx hb dX9_done_7 rfl (lv_at hl 0 rfl) ?_
    refine lv_bipush (v := 6) hx hb dX9_done_8 (by decide) ?_
    obtain ⟨I4, e5, h⟩ := mc_ob_e h
    refine mg_Vv (As := [.int 6]) (rest := []) (ct_X9_records l (w := w) (I := I) (R := R) e5) C K hP hS hl.1 kr_0 (by decide) rfl rfl ml_X9_102 wy_X9_records wd_X9_records rfl rfl rfl ⟨Nat.le_of_ble_eq_true rfl, Nat.le_of_ble_eq_true rfl⟩ (Nat.le_of_ble_eq_true rfl) ⟨Nat.zero_le _, Nat.zero_le _⟩ dX9_done_10 (fun H locs hP hS => ?_)
    refine lv_iload_n hx hb dX9_done_13 rfl (lv_at hl 1 rfl) ?_
    cases h
    exact mt_i hC hr hlk K hP hS dX9_done_14
set_option maxHeartbeats 4000000 in
set_option maxRecDepth 100000 in
theorem ct_X9_pay (l : Launch) {w : mc_w} {I : Nat → Nat → Int32} {R : Nat → Nat → Option Nat} {F : Nat} {v1 : Int32} {Iz : Nat → Nat → Int32} {rz : Int32} (h : mi_X9_pay F I v1 = some (Iz, rz)) : Met l yX9_pay (Cond.code yX9_pay cX9_pay 2 (some .int) :: mc_big) ({ frames := 6, cells := 0, slots := 0, locals := 134 } : Room) (va_Pc [.ref (w.2.2.1 0), .int v1] (mc_B mr_k 3 w I R)) (mc_Q (some (.int rz)) (mc_B mr_k 3 w Iz R) (mc_A 3 w)) 0 0 (mc_A 3 w) := by
  refine Met.ofW (cc := cX9_pay) (maxL := 2) (ret := (some .int)) (by decide) rfl ?_
  intro p e s m args below meth c s₁ B hml hv
  obtain ⟨rfl, hP, K⟩ := hv
  have hown : s.vm.findClass RX9 = some m.cls := findClass_of_methodNamed B.named
  have C : CallFix p m c cX9_pay 2 s _ mc_big RX9 := ⟨B.exec, B.bytes, hml, hown, fun w hw => atoms_spec B.pre w (List.mem_cons_of_mem _ hw)⟩
  have hx := C.1
  have hb := C.2.1
  have hC := And.intro C.1 C.2.1
  have hr := B.returns
  have hlk := B.notSynchronized
  have hS : va_S (mc_A 3 w) s.heap s.heap [] := va_S.rf
  have hl := lv_entry ([.ref (w.2.2.1 0), .int v1]) (n := 2) (Nat.le_of_ble_eq_true rfl)
  rw [lg_entry_eq]
  generalize (lg_sl ([.ref (w.2.2.1 0), .int v1]) ++ List.replicate (2 - (lg_sl ([.ref (w.2.2.1 0), .int v1])).length) Slot.unset).toArray = ls at hl ⊢
  have hl : lv_has ls 2 [(0, .ref (w.2.2.1 0)), (1, .int v1)] := hl
  unfold mi_X9_pay at h
  refine lv_aload_n hx hb dX9_pay_0 rfl (lv_at hl 0 rfl) ?_
  refine lv_iconst (v := 0) hx hb dX9_pay_1 (by decide) ?_
  refine lv_bipush (v := 6) hx hb dX9_pay_2 (by decide) ?_
  obtain ⟨I1, e2, h⟩ := mc_ob_e h
  refine mg_Vv (As := [.int 0, .int 6]) (rest := []) (ct_X9_copies l (w := w) (I := I) (R := R) e2) C K hP hS hl.1 kr_0 (by decide) rfl rfl ml_X9_26 wy_X9_copies wd_X9_copies rfl rfl rfl ⟨Nat.le_of_ble_eq_true rfl, Nat.le_of_ble_eq_true rfl⟩ (Nat.le_of_ble_eq_true rfl) ⟨Nat.zero_le _, Nat.zero_le _⟩ dX9_pay_4 (fun H locs hP hS => ?_)
  refine lv_aload_n hx hb dX9_pay_7 rfl (lv_at hl 0 rfl) ?_
  refine lv_aload_n hx hb dX9_pay_8 rfl (lv_at hl 0 rfl) ?_
  refine lv_iload_n hx hb dX9_pay_9 rfl (lv_at hl 1 rfl) ?_
  obtain ⟨I3, r4, e5, h⟩ := mc_ob2_e h
  refine mg_Vi (As := [.int v1]) (rest := [.ref (w.2.2.1 0)]) (ct_X9_pays l (w := w) (I := I1) (R := R) e5) C K hP hS hl.1 kr_0 (by decide) rfl rfl ml_X9_106 wy_X9_pays wd_X9_pays rfl rfl rfl ⟨Nat.le_of_ble_eq_true rfl, Nat.le_of_ble_eq_true rfl⟩ (Nat.le_of_ble_eq_true rfl) ⟨Nat.zero_le _, Nat.zero_le _⟩ dX9_pay_10 (fun H locs hP hS => ?_)
  obtain ⟨I6, r7, e8, h⟩ := mc_ob2_e h
  refine mg_Vi (As := [.int r4]) (rest := []) (ct_X9_done l (w := w) (I := I3) (R := R) e8) C K hP hS hl.1 kr_0 (by decide) rfl rfl ml_X9_109 wy_X9_done wd_X9_done rfl rfl rfl ⟨Nat.le_of_ble_eq_true rfl, Nat.le_of_ble_eq_true rfl⟩ (Nat.le_of_ble_eq_true rfl) ⟨Nat.zero_le _, Nat.zero_le _⟩ dX9_pay_13 (fun H locs hP hS => ?_)
  cases h
  exact mt_i hC hr hlk K hP hS dX9_pay_16
set_option maxHeartbeats 4000000 in
set_option maxRecDepth 100000 in
theorem ct_X9_setSlope (l : Launch) {w : mc_w} {I : Nat → Nat → Int32} {R : Nat → Nat → Option Nat} {F : Nat} {v1 : Int32} {Iz : Nat → Nat → Int32} {rz : Int32} (h : mi_X9_setSlope F I v1 = some (Iz, rz)) : Met l yX9_setSlope (Cond.code yX9_setSlope cX9_setSlope 2 (some .int) :: mc_big) ({ frames := 3, cells := 0, slots := 0, locals := 66 } : Room) (va_Pc [.ref (w.2.2.1 0), .int v1] (mc_B mr_k 3 w I R)) (mc_Q (some (.int rz)) (mc_B mr_k 3 w Iz R) (mc_A 3 w)) 0 0 (mc_A 3 w) := by
  refine Met.ofW (cc := cX9_setSlope) (maxL := 2) (ret := (some .int)) (by decide) rfl ?_
  intro p e s m args below meth c s₁ B hml hv
  obtain ⟨rfl, hP, K⟩ := hv
  have hown : s.vm.findClass RX9 = some m.cls := findClass_of_methodNamed B.named
  have C : CallFix p m c cX9_setSlope 2 s _ mc_big RX9 := ⟨B.exec, B.bytes, hml, hown, fun w hw => atoms_spec B.pre w (List.mem_cons_of_mem _ hw)⟩
  have hx := C.1
  have hb := C.2.1
  have hC := And.intro C.1 C.2.1
  have hr := B.returns
  have hlk := B.notSynchronized
  have hS : va_S (mc_A 3 w) s.heap s.heap [] := va_S.rf
  have hl := lv_entry ([.ref (w.2.2.1 0), .int v1]) (n := 2) (Nat.le_of_ble_eq_true rfl)
  rw [lg_entry_eq]
  generalize (lg_sl ([.ref (w.2.2.1 0), .int v1]) ++ List.replicate (2 - (lg_sl ([.ref (w.2.2.1 0), .int v1])).length) Slot.unset).toArray = ls at hl ⊢
  have hl : lv_has ls 2 [(0, .ref (w.2.2.1 0)), (1, .int v1)] := hl
  unfold mi_X9_setSlope at h
  refine lv_aload_n hx hb dX9_setSlope_0 rfl (lv_at hl 0 rfl) ?_
  refine lv_iconst (v := 0) hx hb dX9_setSlope_1 (by decide) ?_
  refine lv_bipush (v := 6) hx hb dX9_setSlope_2 (by decide) ?_
  obtain ⟨I1, e2, h⟩ := mc_ob_e h
  refine mg_Vv (As := [.int 0, .int 6]) (rest := []) (ct_X9_copies l (w := w) (I := I) (R := R) e2) C K hP hS hl.1 kr_0 (by decide) rfl rfl ml_X9_26 wy_X9_copies wd_X9_copies rfl rfl rfl ⟨Nat.le_of_ble_eq_true rfl, Nat.le_of_ble_eq_true rfl⟩ (Nat.le_of_ble_eq_true rfl) ⟨Nat.zero_le _, Nat.zero_le _⟩ dX9_setSlope_4 (fun H locs hP hS => ?_)
  refine lv_aload_n hx hb dX9_setSlope_7 rfl (lv_at hl 0 rfl) ?_
  refine lv_aload_n hx hb dX9_setSlope_8 rfl (lv_at hl 0 rfl) ?_
  refine lv_iload_n hx hb dX9_setSlope_9 rfl (lv_at hl 1 rfl) ?_
  obtain ⟨I3, r4, e5, h⟩ := mc_ob2_e h
  refine mg_Vi (As := [.int v1]) (rest := [.ref (w.2.2.1 0)]) (ct_X9_slopes l (w := w) (I := I1) (R := R) e5) C K hP hS hl.1 kr_0 (by decide) rfl rfl ml_X9_112 wy_X9_slopes wd_X9_slopes rfl rfl rfl ⟨Nat.le_of_ble_eq_true rfl, Nat.le_of_ble_eq_true rfl⟩ (Nat.le_of_ble_eq_true rfl) ⟨Nat.zero_le _, Nat.zero_le _⟩ dX9_setSlope_10 (fun H locs hP hS => ?_)
  obtain ⟨I6, r7, e8, h⟩ := mc_ob2_e h
  refine mg_Vi (As := [.int r4]) (rest := []) (ct_X9_done l (w := w) (I := I3) (R := R) e8) C K hP hS hl.1 kr_0 (by decide) rfl rfl ml_X9_109 wy_X9_done wd_X9_done rfl rfl rfl ⟨Nat.le_of_ble_eq_true rfl, Nat.le_of_ble_eq_true rfl⟩ (Nat.le_of_ble_eq_true rfl) ⟨Nat.zero_le _, Nat.zero_le _⟩ dX9_setSlope_13 (fun H locs hP hS => ?_)
  cases h
  exact mt_i hC hr hlk K hP hS dX9_setSlope_16
set_option maxHeartbeats 4000000 in
set_option maxRecDepth 100000 in
theorem ct_X9_weight (l : Launch) {w : mc_w} {I : Nat → Nat → Int32} {R : Nat → Nat → Option Nat} {F : Nat} {v1 : Int32} {Iz : Nat → Nat → Int32} {rz : Int32} (h : mi_X9_weight F I v1 = some (Iz, rz)) : Met l yX9_weight (Cond.code yX9_weight cX9_weight 2 (some .int) :: mc_big) ({ frames := 3, cells := 0, slots := 0, locals := 66 } : Room) (va_Pc [.ref (w.2.2.1 0), .int v1] (mc_B mr_k 3 w I R)) (mc_Q (some (.int rz)) (mc_B mr_k 3 w Iz R) (mc_A 3 w)) 0 0 (mc_A 3 w) := by
  refine Met.ofW (cc := cX9_weight) (maxL := 2) (ret := (some .int)) (by decide) rfl ?_
  intro p e s m args below meth c s₁ B hml hv
  obtain ⟨rfl, hP, K⟩ := hv
  have hown : s.vm.findClass RX9 = some m.cls := findClass_of_methodNamed B.named
  have C : CallFix p m c cX9_weight 2 s _ mc_big RX9 := ⟨B.exec, B.bytes, hml, hown, fun w hw => atoms_spec B.pre w (List.mem_cons_of_mem _ hw)⟩
  have hx := C.1
  have hb := C.2.1
  have hC := And.intro C.1 C.2.1
  have hr := B.returns
  have hlk := B.notSynchronized
  have hS : va_S (mc_A 3 w) s.heap s.heap [] := va_S.rf
  have hl := lv_entry ([.ref (w.2.2.1 0), .int v1]) (n := 2) (Nat.le_of_ble_eq_true rfl)
  rw [lg_entry_eq]
  generalize (lg_sl ([.ref (w.2.2.1 0), .int v1]) ++ List.replicate (2 - (lg_sl ([.ref (w.2.2.1 0), .int v1])).length) Slot.unset).toArray = ls at hl ⊢
  have hl : lv_has ls 2 [(0, .ref (w.2.2.1 0)), (1, .int v1)] := hl
  unfold mi_X9_weight at h
  refine lv_aload_n hx hb dX9_weight_0 rfl (lv_at hl 0 rfl) ?_
  refine lv_iconst (v := 0) hx hb dX9_weight_1 (by decide) ?_
  refine lv_bipush (v := 6) hx hb dX9_weight_2 (by decide) ?_
  obtain ⟨I1, e2, h⟩ := mc_ob_e h
  refine mg_Vv (As := [.int 0, .int 6]) (rest := []) (ct_X9_copies l (w := w) (I := I) (R := R) e2) C K hP hS hl.1 kr_0 (by decide) rfl rfl ml_X9_26 wy_X9_copies wd_X9_copies rfl rfl rfl ⟨Nat.le_of_ble_eq_true rfl, Nat.le_of_ble_eq_true rfl⟩ (Nat.le_of_ble_eq_true rfl) ⟨Nat.zero_le _, Nat.zero_le _⟩ dX9_weight_4 (fun H locs hP hS => ?_)
  refine lv_aload_n hx hb dX9_weight_7 rfl (lv_at hl 0 rfl) ?_
  refine lv_aload_n hx hb dX9_weight_8 rfl (lv_at hl 0 rfl) ?_
  refine lv_iload_n hx hb dX9_weight_9 rfl (lv_at hl 1 rfl) ?_
  refine mg_Si (As := [.int v1]) (rest := [.ref (w.2.2.1 0), .ref (w.2.2.1 0)]) (ct_X9_flag l (w := w) (I := I1) (R := R) rfl) C K hP hS hl.1 ml_X9_74 wy_X9_flag wd_X9_flag rfl rfl rfl ⟨Nat.le_of_ble_eq_true rfl, Nat.le_of_ble_eq_true rfl⟩ (Nat.le_of_ble_eq_true rfl) ⟨Nat.zero_le _, Nat.zero_le _⟩ dX9_weight_10 (fun H locs hP hS => ?_)
  obtain ⟨I4, r5, e6, h⟩ := mc_ob2_e h
  refine mg_Vi (As := [.int (mi_X9_flag v1)]) (rest := [.ref (w.2.2.1 0)]) (ct_X9_weighs l (w := w) (I := I1) (R := R) e6) C K hP hS hl.1 kr_0 (by decide) rfl rfl ml_X9_115 wy_X9_weighs wd_X9_weighs rfl rfl rfl ⟨Nat.le_of_ble_eq_true rfl, Nat.le_of_ble_eq_true rfl⟩ (Nat.le_of_ble_eq_true rfl) ⟨Nat.zero_le _, Nat.zero_le _⟩ dX9_weight_13 (fun H locs hP hS => ?_)
  obtain ⟨I7, r8, e9, h⟩ := mc_ob2_e h
  refine mg_Vi (As := [.int r5]) (rest := []) (ct_X9_done l (w := w) (I := I4) (R := R) e9) C K hP hS hl.1 kr_0 (by decide) rfl rfl ml_X9_109 wy_X9_done wd_X9_done rfl rfl rfl ⟨Nat.le_of_ble_eq_true rfl, Nat.le_of_ble_eq_true rfl⟩ (Nat.le_of_ble_eq_true rfl) ⟨Nat.zero_le _, Nat.zero_le _⟩ dX9_weight_16 (fun H locs hP hS => ?_)
  cases h
  exact mt_i hC hr hlk K hP hS dX9_weight_19
set_option maxHeartbeats 4000000 in
set_option maxRecDepth 100000 in
theorem ct_X9_clamp (l : Launch) {w : mc_w} {I : Nat → Nat → Int32} {R : Nat → Nat → Option Nat} {F : Nat} {v1 : Int32} {Iz : Nat → Nat → Int32} {rz : Int32} (h : mi_X9_clamp F I v1 = some (Iz, rz)) : Met l yX9_clamp (Cond.code yX9_clamp cX9_clamp 2 (some .int) :: mc_big) ({ frames := 3, cells := 0, slots := 0, locals := 66 } : Room) (va_Pc [.ref (w.2.2.1 0), .int v1] (mc_B mr_k 3 w I R)) (mc_Q (some (.int rz)) (mc_B mr_k 3 w Iz R) (mc_A 3 w)) 0 0 (mc_A 3 w) := by
  refine Met.ofW (cc := cX9_clamp) (maxL := 2) (ret := (some .int)) (by decide) rfl ?_
  intro p e s m args below meth c s₁ B hml hv
  obtain ⟨rfl, hP, K⟩ := hv
  have hown : s.vm.findClass RX9 = some m.cls := findClass_of_methodNamed B.named
  have C : CallFix p m c cX9_clamp 2 s _ mc_big RX9 := ⟨B.exec, B.bytes, hml, hown, fun w hw => atoms_spec B.pre w (List.mem_cons_of_mem _ hw)⟩
  have hx := C.1
  have hb := C.2.1
  have hC := And.intro C.1 C.2.1
  have hr := B.returns
  have hlk := B.notSynchronized
  have hS : va_S (mc_A 3 w) s.heap s.heap [] := va_S.rf
  have hl := lv_entry ([.ref (w.2.2.1 0), .int v1]) (n := 2) (Nat.le_of_ble_eq_true rfl)
  rw [lg_entry_eq]
  generalize (lg_sl ([.ref (w.2.2.1 0), .int v1]) ++ List.replicate (2 - (lg_sl ([.ref (w.2.2.1 0), .int v1])).length) Slot.unset).toArray = ls at hl ⊢
  have hl : lv_has ls 2 [(0, .ref (w.2.2.1 0)), (1, .int v1)] := hl
  unfold mi_X9_clamp at h
  refine lv_aload_n hx hb dX9_clamp_0 rfl (lv_at hl 0 rfl) ?_
  refine lv_iconst (v := 0) hx hb dX9_clamp_1 (by decide) ?_
  refine lv_bipush (v := 6) hx hb dX9_clamp_2 (by decide) ?_
  obtain ⟨I1, e2, h⟩ := mc_ob_e h
  refine mg_Vv (As := [.int 0, .int 6]) (rest := []) (ct_X9_copies l (w := w) (I := I) (R := R) e2) C K hP hS hl.1 kr_0 (by decide) rfl rfl ml_X9_26 wy_X9_copies wd_X9_copies rfl rfl rfl ⟨Nat.le_of_ble_eq_true rfl, Nat.le_of_ble_eq_true rfl⟩ (Nat.le_of_ble_eq_true rfl) ⟨Nat.zero_le _, Nat.zero_le _⟩ dX9_clamp_4 (fun H locs hP hS => ?_)
  refine lv_aload_n hx hb dX9_clamp_7 rfl (lv_at hl 0 rfl) ?_
  refine lv_aload_n hx hb dX9_clamp_8 rfl (lv_at hl 0 rfl) ?_
  refine lv_iload_n hx hb dX9_clamp_9 rfl (lv_at hl 1 rfl) ?_
  refine mg_Si (As := [.int v1]) (rest := [.ref (w.2.2.1 0), .ref (w.2.2.1 0)]) (ct_X9_flag l (w := w) (I := I1) (R := R) rfl) C K hP hS hl.1 ml_X9_74 wy_X9_flag wd_X9_flag rfl rfl rfl ⟨Nat.le_of_ble_eq_true rfl, Nat.le_of_ble_eq_true rfl⟩ (Nat.le_of_ble_eq_true rfl) ⟨Nat.zero_le _, Nat.zero_le _⟩ dX9_clamp_10 (fun H locs hP hS => ?_)
  obtain ⟨I4, r5, e6, h⟩ := mc_ob2_e h
  refine mg_Vi (As := [.int (mi_X9_flag v1)]) (rest := [.ref (w.2.2.1 0)]) (ct_X9_clamps l (w := w) (I := I1) (R := R) e6) C K hP hS hl.1 kr_0 (by decide) rfl rfl ml_X9_118 wy_X9_clamps wd_X9_clamps rfl rfl rfl ⟨Nat.le_of_ble_eq_true rfl, Nat.le_of_ble_eq_true rfl⟩ (Nat.le_of_ble_eq_true rfl) ⟨Nat.zero_le _, Nat.zero_le _⟩ dX9_clamp_13 (fun H locs hP hS => ?_)
  obtain ⟨I7, r8, e9, h⟩ := mc_ob2_e h
  refine mg_Vi (As := [.int r5]) (rest := []) (ct_X9_done l (w := w) (I := I4) (R := R) e9) C K hP hS hl.1 kr_0 (by decide) rfl rfl ml_X9_109 wy_X9_done wd_X9_done rfl rfl rfl ⟨Nat.le_of_ble_eq_true rfl, Nat.le_of_ble_eq_true rfl⟩ (Nat.le_of_ble_eq_true rfl) ⟨Nat.zero_le _, Nat.zero_le _⟩ dX9_clamp_16 (fun H locs hP hS => ?_)
  cases h
  exact mt_i hC hr hlk K hP hS dX9_clamp_19
set_option maxHeartbeats 4000000 in
set_option maxRecDepth 100000 in
theorem ct_X9_takeOff (l : Launch) {w : mc_w} {I : Nat → Nat → Int32} {R : Nat → Nat → Option Nat} {F : Nat} {v1 : Int32} {Iz : Nat → Nat → Int32} {rz : Int32} (h : mi_X9_takeOff F I v1 = some (Iz, rz)) : Met l yX9_takeOff (Cond.code yX9_takeOff cX9_takeOff 2 (some .int) :: mc_big) ({ frames := 3, cells := 0, slots := 0, locals := 66 } : Room) (va_Pc [.ref (w.2.2.1 0), .int v1] (mc_B mr_k 3 w I R)) (mc_Q (some (.int rz)) (mc_B mr_k 3 w Iz R) (mc_A 3 w)) 0 0 (mc_A 3 w) := by
  refine Met.ofW (cc := cX9_takeOff) (maxL := 2) (ret := (some .int)) (by decide) rfl ?_
  intro p e s m args below meth c s₁ B hml hv
  obtain ⟨rfl, hP, K⟩ := hv
  have hown : s.vm.findClass RX9 = some m.cls := findClass_of_methodNamed B.named
  have C : CallFix p m c cX9_takeOff 2 s _ mc_big RX9 := ⟨B.exec, B.bytes, hml, hown, fun w hw => atoms_spec B.pre w (List.mem_cons_of_mem _ hw)⟩
  have hx := C.1
  have hb := C.2.1
  have hC := And.intro C.1 C.2.1
  have hr := B.returns
  have hlk := B.notSynchronized
  have hS : va_S (mc_A 3 w) s.heap s.heap [] := va_S.rf
  have hl := lv_entry ([.ref (w.2.2.1 0), .int v1]) (n := 2) (Nat.le_of_ble_eq_true rfl)
  rw [lg_entry_eq]
  generalize (lg_sl ([.ref (w.2.2.1 0), .int v1]) ++ List.replicate (2 - (lg_sl ([.ref (w.2.2.1 0), .int v1])).length) Slot.unset).toArray = ls at hl ⊢
  have hl : lv_has ls 2 [(0, .ref (w.2.2.1 0)), (1, .int v1)] := hl
  unfold mi_X9_takeOff at h
  refine lv_aload_n hx hb dX9_takeOff_0 rfl (lv_at hl 0 rfl) ?_
  refine lv_iconst (v := 0) hx hb dX9_takeOff_1 (by decide) ?_
  refine lv_bipush (v := 6) hx hb dX9_takeOff_2 (by decide) ?_
  obtain ⟨I1, e2, h⟩ := mc_ob_e h
  refine mg_Vv (As := [.int 0, .int 6]) (rest := []) (ct_X9_copies l (w := w) (I := I) (R := R) e2) C K hP hS hl.1 kr_0 (by decide) rfl rfl ml_X9_26 wy_X9_copies wd_X9_copies rfl rfl rfl ⟨Nat.le_of_ble_eq_true rfl, Nat.le_of_ble_eq_true rfl⟩ (Nat.le_of_ble_eq_true rfl) ⟨Nat.zero_le _, Nat.zero_le _⟩ dX9_takeOff_4 (fun H locs hP hS => ?_)
  refine lv_aload_n hx hb dX9_takeOff_7 rfl (lv_at hl 0 rfl) ?_
  refine lv_aload_n hx hb dX9_takeOff_8 rfl (lv_at hl 0 rfl) ?_
  refine lv_iload_n hx hb dX9_takeOff_9 rfl (lv_at hl 1 rfl) ?_
  obtain ⟨I3, r4, e5, h⟩ := mc_ob2_e h
  refine mg_Vi (As := [.int v1]) (rest := [.ref (w.2.2.1 0)]) (ct_X9_takes l (w := w) (I := I1) (R := R) e5) C K hP hS hl.1 kr_0 (by decide) rfl rfl ml_X9_121 wy_X9_takes wd_X9_takes rfl rfl rfl ⟨Nat.le_of_ble_eq_true rfl, Nat.le_of_ble_eq_true rfl⟩ (Nat.le_of_ble_eq_true rfl) ⟨Nat.zero_le _, Nat.zero_le _⟩ dX9_takeOff_10 (fun H locs hP hS => ?_)
  obtain ⟨I6, r7, e8, h⟩ := mc_ob2_e h
  refine mg_Vi (As := [.int r4]) (rest := []) (ct_X9_done l (w := w) (I := I3) (R := R) e8) C K hP hS hl.1 kr_0 (by decide) rfl rfl ml_X9_109 wy_X9_done wd_X9_done rfl rfl rfl ⟨Nat.le_of_ble_eq_true rfl, Nat.le_of_ble_eq_true rfl⟩ (Nat.le_of_ble_eq_true rfl) ⟨Nat.zero_le _, Nat.zero_le _⟩ dX9_takeOff_13 (fun H locs hP hS => ?_)
  cases h
  exact mt_i hC hr hlk K hP hS dX9_takeOff_16
set_option maxHeartbeats 4000000 in
set_option maxRecDepth 100000 in
theorem ct_X9_send (l : Launch) {w : mc_w} {I : Nat → Nat → Int32} {R : Nat → Nat → Option Nat} {F : Nat} {Iz : Nat → Nat → Int32} {rz : Int32} (h : mi_X9_send F I = some (Iz, rz)) : Met l yX9_send (Cond.code yX9_send cX9_send 1 (some .int) :: mc_big) ({ frames := 3, cells := 0, slots := 0, locals := 66 } : Room) (va_Pc [.ref (w.2.2.1 0)] (mc_B mr_k 3 w I R)) (mc_Q (some (.int rz)) (mc_B mr_k 3 w Iz R) (mc_A 3 w)) 0 0 (mc_A 3 w) := by
  refine Met.ofW (cc := cX9_send) (maxL := 1) (ret := (some .int)) (by decide) rfl ?_
  intro p e s m args below meth c s₁ B hml hv
  obtain ⟨rfl, hP, K⟩ := hv
  have hown : s.vm.findClass RX9 = some m.cls := findClass_of_methodNamed B.named
  have C : CallFix p m c cX9_send 1 s _ mc_big RX9 := ⟨B.exec, B.bytes, hml, hown, fun w hw => atoms_spec B.pre w (List.mem_cons_of_mem _ hw)⟩
  have hx := C.1
  have hb := C.2.1
  have hC := And.intro C.1 C.2.1
  have hr := B.returns
  have hlk := B.notSynchronized
  have hS : va_S (mc_A 3 w) s.heap s.heap [] := va_S.rf
  have hl := lv_entry ([.ref (w.2.2.1 0)]) (n := 1) (Nat.le_of_ble_eq_true rfl)
  rw [lg_entry_eq]
  generalize (lg_sl ([.ref (w.2.2.1 0)]) ++ List.replicate (1 - (lg_sl ([.ref (w.2.2.1 0)])).length) Slot.unset).toArray = ls at hl ⊢
  have hl : lv_has ls 1 [(0, .ref (w.2.2.1 0))] := hl
  unfold mi_X9_send at h
  refine lv_aload_n hx hb dX9_send_0 rfl (lv_at hl 0 rfl) ?_
  refine lv_iconst (v := 0) hx hb dX9_send_1 (by decide) ?_
  refine lv_bipush (v := 6) hx hb dX9_send_2 (by decide) ?_
  obtain ⟨I1, e2, h⟩ := mc_ob_e h
  refine mg_Vv (As := [.int 0, .int 6]) (rest := []) (ct_X9_copies l (w := w) (I := I) (R := R) e2) C K hP hS hl.1 kr_0 (by decide) rfl rfl ml_X9_26 wy_X9_copies wd_X9_copies rfl rfl rfl ⟨Nat.le_of_ble_eq_true rfl, Nat.le_of_ble_eq_true rfl⟩ (Nat.le_of_ble_eq_true rfl) ⟨Nat.zero_le _, Nat.zero_le _⟩ dX9_send_4 (fun H locs hP hS => ?_)
  refine lv_aload_n hx hb dX9_send_7 rfl (lv_at hl 0 rfl) ?_
  refine lv_aload_n hx hb dX9_send_8 rfl (lv_at hl 0 rfl) ?_
  obtain ⟨I3, r4, e5, h⟩ := mc_ob2_e h
  refine mg_Vi (As := []) (rest := [.ref (w.2.2.1 0)]) (ct_X9_sends l (w := w) (I := I1) (R := R) e5) C K hP hS hl.1 kr_0 (by decide) rfl rfl ml_X9_124 wy_X9_sends wd_X9_sends rfl rfl rfl ⟨Nat.le_of_ble_eq_true rfl, Nat.le_of_ble_eq_true rfl⟩ (Nat.le_of_ble_eq_true rfl) ⟨Nat.zero_le _, Nat.zero_le _⟩ dX9_send_9 (fun H locs hP hS => ?_)
  obtain ⟨I6, r7, e8, h⟩ := mc_ob2_e h
  refine mg_Vi (As := [.int r4]) (rest := []) (ct_X9_done l (w := w) (I := I3) (R := R) e8) C K hP hS hl.1 kr_0 (by decide) rfl rfl ml_X9_109 wy_X9_done wd_X9_done rfl rfl rfl ⟨Nat.le_of_ble_eq_true rfl, Nat.le_of_ble_eq_true rfl⟩ (Nat.le_of_ble_eq_true rfl) ⟨Nat.zero_le _, Nat.zero_le _⟩ dX9_send_12 (fun H locs hP hS => ?_)
  cases h
  exact mt_i hC hr hlk K hP hS dX9_send_15
set_option maxHeartbeats 4000000 in
set_option maxRecDepth 100000 in
theorem ct_X9_pass (l : Launch) {w : mc_w} {I : Nat → Nat → Int32} {R : Nat → Nat → Option Nat} {F : Nat} {v1 : Int32} {Iz : Nat → Nat → Int32} {rz : Int32} (h : mi_X9_pass F I v1 = some (Iz, rz)) : Met l yX9_pass (Cond.code yX9_pass cX9_pass 2 (some .int) :: mc_big) ({ frames := 8, cells := 0, slots := 0, locals := 187 } : Room) (va_Pc [.ref (w.2.2.1 0), .int v1] (mc_B mr_k 3 w I R)) (mc_Q (some (.int rz)) (mc_B mr_k 3 w Iz R) (mc_A 3 w)) 0 0 (mc_A 3 w) := by
  refine Met.ofW (cc := cX9_pass) (maxL := 2) (ret := (some .int)) (by decide) rfl ?_
  intro p e s m args below meth c s₁ B hml hv
  obtain ⟨rfl, hP, K⟩ := hv
  have hown : s.vm.findClass RX9 = some m.cls := findClass_of_methodNamed B.named
  have C : CallFix p m c cX9_pass 2 s _ mc_big RX9 := ⟨B.exec, B.bytes, hml, hown, fun w hw => atoms_spec B.pre w (List.mem_cons_of_mem _ hw)⟩
  have hx := C.1
  have hb := C.2.1
  have hC := And.intro C.1 C.2.1
  have hr := B.returns
  have hlk := B.notSynchronized
  have hS : va_S (mc_A 3 w) s.heap s.heap [] := va_S.rf
  have hl := lv_entry ([.ref (w.2.2.1 0), .int v1]) (n := 2) (Nat.le_of_ble_eq_true rfl)
  rw [lg_entry_eq]
  generalize (lg_sl ([.ref (w.2.2.1 0), .int v1]) ++ List.replicate (2 - (lg_sl ([.ref (w.2.2.1 0), .int v1])).length) Slot.unset).toArray = ls at hl ⊢
  have hl : lv_has ls 2 [(0, .ref (w.2.2.1 0)), (1, .int v1)] := hl
  unfold mi_X9_pass at h
  refine lv_aload_n hx hb dX9_pass_0 rfl (lv_at hl 0 rfl) ?_
  refine lv_iconst (v := 0) hx hb dX9_pass_1 (by decide) ?_
  refine lv_bipush (v := 6) hx hb dX9_pass_2 (by decide) ?_
  obtain ⟨I1, e2, h⟩ := mc_ob_e h
  refine mg_Vv (As := [.int 0, .int 6]) (rest := []) (ct_X9_copies l (w := w) (I := I) (R := R) e2) C K hP hS hl.1 kr_0 (by decide) rfl rfl ml_X9_26 wy_X9_copies wd_X9_copies rfl rfl rfl ⟨Nat.le_of_ble_eq_true rfl, Nat.le_of_ble_eq_true rfl⟩ (Nat.le_of_ble_eq_true rfl) ⟨Nat.zero_le _, Nat.zero_le _⟩ dX9_pass_4 (fun H locs hP hS => ?_)
  refine lv_aload_n hx hb dX9_pass_7 rfl (lv_at hl 0 rfl) ?_
  refine lv_aload_n hx hb dX9_pass_8 rfl (lv_at hl 0 rfl) ?_
  refine lv_iload_n hx hb dX9_pass_9 rfl (lv_at hl 1 rfl) ?_
  obtain ⟨I3, r4, e5, h⟩ := mc_ob2_e h
  refine mg_Vi (As := [.int v1]) (rest := [.ref (w.2.2.1 0)]) (ct_X9_passes l (w := w) (I := I1) (R := R) e5) C K hP hS hl.1 kr_0 (by decide) rfl rfl ml_X9_128 wy_X9_passes wd_X9_passes rfl rfl rfl ⟨Nat.le_of_ble_eq_true rfl, Nat.le_of_ble_eq_true rfl⟩ (Nat.le_of_ble_eq_true rfl) ⟨Nat.zero_le _, Nat.zero_le _⟩ dX9_pass_10 (fun H locs hP hS => ?_)
  obtain ⟨I6, r7, e8, h⟩ := mc_ob2_e h
  refine mg_Vi (As := [.int r4]) (rest := []) (ct_X9_done l (w := w) (I := I3) (R := R) e8) C K hP hS hl.1 kr_0 (by decide) rfl rfl ml_X9_109 wy_X9_done wd_X9_done rfl rfl rfl ⟨Nat.le_of_ble_eq_true rfl, Nat.le_of_ble_eq_true rfl⟩ (Nat.le_of_ble_eq_true rfl) ⟨Nat.zero_le _, Nat.zero_le _⟩ dX9_pass_13 (fun H locs hP hS => ?_)
  cases h
  exact mt_i hC hr hlk K hP hS dX9_pass_16
set_option maxHeartbeats 4000000 in
set_option maxRecDepth 100000 in
theorem ct_X9_setWater (l : Launch) {w : mc_w} {I : Nat → Nat → Int32} {R : Nat → Nat → Option Nat} {F : Nat} {v1 : Int32} {v2 : Int32} {v3 : Int32} {Iz : Nat → Nat → Int32} {rz : Int32} (h : mi_X9_setWater F I v1 v2 v3 = some (Iz, rz)) : Met l yX9_setWater (Cond.code yX9_setWater cX9_setWater 4 (some .int) :: mc_big) ({ frames := 3, cells := 0, slots := 0, locals := 66 } : Room) (va_Pc [.ref (w.2.2.1 0), .int v1, .int v2, .int v3] (mc_B mr_k 3 w I R)) (mc_Q (some (.int rz)) (mc_B mr_k 3 w Iz R) (mc_A 3 w)) 0 0 (mc_A 3 w) := by
  refine Met.ofW (cc := cX9_setWater) (maxL := 4) (ret := (some .int)) (by decide) rfl ?_
  intro p e s m args below meth c s₁ B hml hv
  obtain ⟨rfl, hP, K⟩ := hv
  have hown : s.vm.findClass RX9 = some m.cls := findClass_of_methodNamed B.named
  have C : CallFix p m c cX9_setWater 4 s _ mc_big RX9 := ⟨B.exec, B.bytes, hml, hown, fun w hw => atoms_spec B.pre w (List.mem_cons_of_mem _ hw)⟩
  have hx := C.1
  have hb := C.2.1
  have hC := And.intro C.1 C.2.1
  have hr := B.returns
  have hlk := B.notSynchronized
  have hS : va_S (mc_A 3 w) s.heap s.heap [] := va_S.rf
  have hl := lv_entry ([.ref (w.2.2.1 0), .int v1, .int v2, .int v3]) (n := 4) (Nat.le_of_ble_eq_true rfl)
  rw [lg_entry_eq]
  generalize (lg_sl ([.ref (w.2.2.1 0), .int v1, .int v2, .int v3]) ++ List.replicate (4 - (lg_sl ([.ref (w.2.2.1 0), .int v1, .int v2, .int v3])).length) Slot.unset).toArray = ls at hl ⊢
  have hl : lv_has ls 4 [(0, .ref (w.2.2.1 0)), (1, .int v1), (2, .int v2), (3, .int v3)] := hl
  unfold mi_X9_setWater at h
  refine lv_aload_n hx hb dX9_setWater_0 rfl (lv_at hl 0 rfl) ?_
  refine lv_iconst (v := 0) hx hb dX9_setWater_1 (by decide) ?_
  refine lv_bipush (v := 6) hx hb dX9_setWater_2 (by decide) ?_
  obtain ⟨I1, e2, h⟩ := mc_ob_e h
  refine mg_Vv (As := [.int 0, .int 6]) (rest := []) (ct_X9_copies l (w := w) (I := I) (R := R) e2) C K hP hS hl.1 kr_0 (by decide) rfl rfl ml_X9_26 wy_X9_copies wd_X9_copies rfl rfl rfl ⟨Nat.le_of_ble_eq_true rfl, Nat.le_of_ble_eq_true rfl⟩ (Nat.le_of_ble_eq_true rfl) ⟨Nat.zero_le _, Nat.zero_le _⟩ dX9_setWater_4 (fun H locs hP hS => ?_)
  refine lv_aload_n hx hb dX9_setWater_7 rfl (lv_at hl 0 rfl) ?_
  refine lv_aload_n hx hb dX9_setWater_8 rfl (lv_at hl 0 rfl) ?_
  refine lv_iload_n hx hb dX9_setWater_9 rfl (lv_at hl 1 rfl) ?_
  refine lv_iload_n hx hb dX9_setWater_10 rfl (lv_at hl 2 rfl) ?_
  refine lv_iload_n hx hb dX9_setWater_11 rfl (lv_at hl 3 rfl) ?_
  obtain ⟨I3, r4, e5, h⟩ := mc_ob2_e h
  refine mg_Vi (As := [.int v1, .int v2, .int v3]) (rest := [.ref (w.2.2.1 0)]) (ct_X9_waters l (w := w) (I := I1) (R := R) e5) C K hP hS hl.1 kr_0 (by decide) rfl rfl ml_X9_131 wy_X9_waters wd_X9_waters rfl rfl rfl ⟨Nat.le_of_ble_eq_true rfl, Nat.le_of_ble_eq_true rfl⟩ (Nat.le_of_ble_eq_true rfl) ⟨Nat.zero_le _, Nat.zero_le _⟩ dX9_setWater_12 (fun H locs hP hS => ?_)
  obtain ⟨I6, r7, e8, h⟩ := mc_ob2_e h
  refine mg_Vi (As := [.int r4]) (rest := []) (ct_X9_done l (w := w) (I := I3) (R := R) e8) C K hP hS hl.1 kr_0 (by decide) rfl rfl ml_X9_109 wy_X9_done wd_X9_done rfl rfl rfl ⟨Nat.le_of_ble_eq_true rfl, Nat.le_of_ble_eq_true rfl⟩ (Nat.le_of_ble_eq_true rfl) ⟨Nat.zero_le _, Nat.zero_le _⟩ dX9_setWater_15 (fun H locs hP hS => ?_)
  cases h
  exact mt_i hC hr hlk K hP hS dX9_setWater_18
set_option maxHeartbeats 4000000 in
set_option maxRecDepth 100000 in
theorem ct_X9_set (l : Launch) {w : mc_w} {I : Nat → Nat → Int32} {R : Nat → Nat → Option Nat} {F : Nat} {v1 : Int32} {v2 : Int32} {Iz : Nat → Nat → Int32} {rz : Int32} (h : mi_X9_set F I v1 v2 = some (Iz, rz)) : Met l yX9_set (Cond.code yX9_set cX9_set 3 (some .int) :: mc_big) ({ frames := 3, cells := 0, slots := 0, locals := 66 } : Room) (va_Pc [.ref (w.2.2.1 0), .int v1, .int v2] (mc_B mr_k 3 w I R)) (mc_Q (some (.int rz)) (mc_B mr_k 3 w Iz R) (mc_A 3 w)) 0 0 (mc_A 3 w) := by
  refine Met.ofW (cc := cX9_set) (maxL := 3) (ret := (some .int)) (by decide) rfl ?_
  intro p e s m args below meth c s₁ B hml hv
  obtain ⟨rfl, hP, K⟩ := hv
  have hown : s.vm.findClass RX9 = some m.cls := findClass_of_methodNamed B.named
  have C : CallFix p m c cX9_set 3 s _ mc_big RX9 := ⟨B.exec, B.bytes, hml, hown, fun w hw => atoms_spec B.pre w (List.mem_cons_of_mem _ hw)⟩
  have hx := C.1
  have hb := C.2.1
  have hC := And.intro C.1 C.2.1
  have hr := B.returns
  have hlk := B.notSynchronized
  have hS : va_S (mc_A 3 w) s.heap s.heap [] := va_S.rf
  have hl := lv_entry ([.ref (w.2.2.1 0), .int v1, .int v2]) (n := 3) (Nat.le_of_ble_eq_true rfl)
  rw [lg_entry_eq]
  generalize (lg_sl ([.ref (w.2.2.1 0), .int v1, .int v2]) ++ List.replicate (3 - (lg_sl ([.ref (w.2.2.1 0), .int v1, .int v2])).length) Slot.unset).toArray = ls at hl ⊢
  have hl : lv_has ls 3 [(0, .ref (w.2.2.1 0)), (1, .int v1), (2, .int v2)] := hl
  unfold mi_X9_set at h
  refine lv_aload_n hx hb dX9_set_0 rfl (lv_at hl 0 rfl) ?_
  refine lv_iconst (v := 0) hx hb dX9_set_1 (by decide) ?_
  refine lv_bipush (v := 6) hx hb dX9_set_2 (by decide) ?_
  obtain ⟨I1, e2, h⟩ := mc_ob_e h
  refine mg_Vv (As := [.int 0, .int 6]) (rest := []) (ct_X9_copies l (w := w) (I := I) (R := R) e2) C K hP hS hl.1 kr_0 (by decide) rfl rfl ml_X9_26 wy_X9_copies wd_X9_copies rfl rfl rfl ⟨Nat.le_of_ble_eq_true rfl, Nat.le_of_ble_eq_true rfl⟩ (Nat.le_of_ble_eq_true rfl) ⟨Nat.zero_le _, Nat.zero_le _⟩ dX9_set_4 (fun H locs hP hS => ?_)
  refine lv_aload_n hx hb dX9_set_7 rfl (lv_at hl 0 rfl) ?_
  refine lv_aload_n hx hb dX9_set_8 rfl (lv_at hl 0 rfl) ?_
  refine lv_iload_n hx hb dX9_set_9 rfl (lv_at hl 1 rfl) ?_
  refine lv_iload_n hx hb dX9_set_10 rfl (lv_at hl 2 rfl) ?_
  obtain ⟨I3, r4, e5, h⟩ := mc_ob2_e h
  refine mg_Vi (As := [.int v1, .int v2]) (rest := [.ref (w.2.2.1 0)]) (ct_X9_sets l (w := w) (I := I1) (R := R) e5) C K hP hS hl.1 kr_0 (by decide) rfl rfl ml_X9_134 wy_X9_sets wd_X9_sets rfl rfl rfl ⟨Nat.le_of_ble_eq_true rfl, Nat.le_of_ble_eq_true rfl⟩ (Nat.le_of_ble_eq_true rfl) ⟨Nat.zero_le _, Nat.zero_le _⟩ dX9_set_11 (fun H locs hP hS => ?_)
  obtain ⟨I6, r7, e8, h⟩ := mc_ob2_e h
  refine mg_Vi (As := [.int r4]) (rest := []) (ct_X9_done l (w := w) (I := I3) (R := R) e8) C K hP hS hl.1 kr_0 (by decide) rfl rfl ml_X9_109 wy_X9_done wd_X9_done rfl rfl rfl ⟨Nat.le_of_ble_eq_true rfl, Nat.le_of_ble_eq_true rfl⟩ (Nat.le_of_ble_eq_true rfl) ⟨Nat.zero_le _, Nat.zero_le _⟩ dX9_set_14 (fun H locs hP hS => ?_)
  cases h
  exact mt_i hC hr hlk K hP hS dX9_set_17
set_option maxHeartbeats 4000000 in
set_option maxRecDepth 100000 in
theorem ct_X9_type (l : Launch) {w : mc_w} {I : Nat → Nat → Int32} {R : Nat → Nat → Option Nat} {v1 : Int32} {Iz : Nat → Nat → Int32} {rz : Int32} (h : mi_X9_type I v1 = some (Iz, rz)) : Met l yX9_type (Cond.code yX9_type cX9_type 2 (some .int) :: mc_big) ({ frames := 0, cells := 0, slots := 0, locals := 0 } : Room) (va_Pc [.ref (w.2.2.1 0), .int v1] (mc_B mr_k 3 w I R)) (mc_Q (some (.int rz)) (mc_B mr_k 3 w Iz R) (mc_A 3 w)) 0 0 (mc_A 3 w) := by
  refine Met.ofW (cc := cX9_type) (maxL := 2) (ret := (some .int)) (by decide) rfl ?_
  intro p e s m args below meth c s₁ B hml hv
  obtain ⟨rfl, hP, K⟩ := hv
  have hown : s.vm.findClass RX9 = some m.cls := findClass_of_methodNamed B.named
  have C : CallFix p m c cX9_type 2 s _ mc_big RX9 := ⟨B.exec, B.bytes, hml, hown, fun w hw => atoms_spec B.pre w (List.mem_cons_of_mem _ hw)⟩
  have hx := C.1
  have hb := C.2.1
  have hC := And.intro C.1 C.2.1
  have hr := B.returns
  have hlk := B.notSynchronized
  have hS : va_S (mc_A 3 w) s.heap s.heap [] := va_S.rf
  have hl := lv_entry ([.ref (w.2.2.1 0), .int v1]) (n := 2) (Nat.le_of_ble_eq_true rfl)
  rw [lg_entry_eq]
  generalize (lg_sl ([.ref (w.2.2.1 0), .int v1]) ++ List.replicate (2 - (lg_sl ([.ref (w.2.2.1 0), .int v1])).length) Slot.unset).toArray = ls at hl ⊢
  have hl : lv_has ls 2 [(0, .ref (w.2.2.1 0)), (1, .int v1)] := hl
  unfold mi_X9_type at h
  refine lv_aload_n hx hb dX9_type_0 rfl (lv_at hl 0 rfl) ?_
  refine mf_X9_137 C K hP kr_0 dX9_type_1 ?_
  refine lv_bipush (v := 60) hx hb dX9_type_4 (by decide) ?_
  refine lv_icmp_ne (tgt := 13) hx hb dX9_type_6 (by decide) (fun c1 => ?_) (fun c1 => ?_)
  · replace h := mc_ie h c1
    refine lv_aload_n hx hb dX9_type_13 rfl (lv_at hl 0 rfl) ?_
    refine mf_X9_13 C K hP kr_0 dX9_type_14 ?_
    refine lv_aload_n hx hb dX9_type_17 rfl (lv_at hl 0 rfl) ?_
    refine mf_X9_137 C K hP kr_0 dX9_type_18 ?_
    refine lv_iload_n hx hb dX9_type_21 rfl (lv_at hl 1 rfl) ?_
    obtain ⟨g2, h⟩ := mc_gd h
    obtain ⟨I3, eI3, h⟩ := mc_bn_e h
    refine ma_s15 hC K hP hS kr_2 g2 eI3 dX9_type_22 (fun H locs hP hS => ?_)
    refine lv_aload_n hx hb dX9_type_23 rfl (lv_at hl 0 rfl) ?_
    refine lv_dup hx hb dX9_type_24 rfl ?_
    refine mf_X9_137 C K hP kr_0 dX9_type_25 ?_
    refine lv_iconst (v := 1) hx hb dX9_type_28 (by decide) ?_
    refine lv_iadd hx hb dX9_type_29 ?_
    obtain ⟨I4, eI4, h⟩ := mc_bn_e h
    refine mp_X9_137 C K hP hS kr_0 eI4 dX9_type_30 (fun H locs hP hS => ?_)
    refine lv_aload_n hx hb dX9_type_33 rfl (lv_at hl 0 rfl) ?_
    refine mf_X9_137 C K hP kr_0 dX9_type_34 ?_
    cases h
    exact mt_i hC hr hlk K hP hS dX9_type_37
  · replace h := mc_it h c1
    refine lv_sipush (v := (-1003)) hx hb dX9_type_9 (by decide) ?_
    cases h
    exact mt_i hC hr hlk K hP hS dX9_type_12
set_option maxHeartbeats 4000000 in
set_option maxRecDepth 100000 in
theorem ct_X9_clearText (l : Launch) {w : mc_w} {I : Nat → Nat → Int32} {R : Nat → Nat → Option Nat} {Iz : Nat → Nat → Int32} {rz : Int32} (h : mi_X9_clearText I = (Iz, rz)) : Met l yX9_clearText (Cond.code yX9_clearText cX9_clearText 2 (some .int) :: mc_big) ({ frames := 0, cells := 0, slots := 0, locals := 0 } : Room) (va_Pc [.ref (w.2.2.1 0)] (mc_B mr_k 3 w I R)) (mc_Q (some (.int rz)) (mc_B mr_k 3 w Iz R) (mc_A 3 w)) 0 0 (mc_A 3 w) := by
  refine Met.ofW (cc := cX9_clearText) (maxL := 2) (ret := (some .int)) (by decide) rfl ?_
  intro p e s m args below meth c s₁ B hml hv
  obtain ⟨rfl, hP, K⟩ := hv
  have hown : s.vm.findClass RX9 = some m.cls := findClass_of_methodNamed B.named
  have C : CallFix p m c cX9_clearText 2 s _ mc_big RX9 := ⟨B.exec, B.bytes, hml, hown, fun w hw => atoms_spec B.pre w (List.mem_cons_of_mem _ hw)⟩
  have hx := C.1
  have hb := C.2.1
  have hC := And.intro C.1 C.2.1
  have hr := B.returns
  have hlk := B.notSynchronized
  have hS : va_S (mc_A 3 w) s.heap s.heap [] := va_S.rf
  have hl := lv_entry ([.ref (w.2.2.1 0)]) (n := 2) (Nat.le_of_ble_eq_true rfl)
  rw [lg_entry_eq]
  generalize (lg_sl ([.ref (w.2.2.1 0)]) ++ List.replicate (2 - (lg_sl ([.ref (w.2.2.1 0)])).length) Slot.unset).toArray = ls at hl ⊢
  have hl : lv_has ls 2 [(0, .ref (w.2.2.1 0))] := hl
  unfold mi_X9_clearText at h
  refine lv_aload_n hx hb dX9_clearText_0 rfl (lv_at hl 0 rfl) ?_
  refine mf_X9_137 C K hP kr_0 dX9_clearText_1 ?_
  obtain ⟨x1, ex1, h⟩ := mc_bn_e h
  refine mv_top ex1 ?_
  refine lv_istore_n (i := 1) (lv' := [(1, .int x1), (0, .ref (w.2.2.1 0))]) hx hb dX9_clearText_4 rfl hl (by decide) rfl (fun ls hl => ?_)
  refine lv_aload_n hx hb dX9_clearText_5 rfl (lv_at hl 1 rfl) ?_
  refine lv_iconst (v := 0) hx hb dX9_clearText_6 (by decide) ?_
  obtain ⟨I2, eI2, h⟩ := mc_bn_e h
  refine mp_X9_137 C K hP hS kr_0 eI2 dX9_clearText_7 (fun H locs hP hS => ?_)
  refine lv_iload_n hx hb dX9_clearText_10 rfl (lv_at hl 0 rfl) ?_
  cases h
  exact mt_i hC hr hlk K hP hS dX9_clearText_11
set_option maxHeartbeats 4000000 in
set_option maxRecDepth 100000 in
theorem bk_X9_readsNumber_J110 {p : Program} {l : Launch} {e : Env} {s : State} {m : MethodId} {args : Array Value} {below : List Frame} {meth : Method} {c : Code} (C : CallFix p m c cX9_readsNumber 5 s args mc_big RX9) (hr : meth.sig.returnType = (some .int)) (hlk : meth.locks = false) {w : mc_w} (K : mc_K mr_k 3 w s) {R : Nat → Nat → Option Nat} {F : Nat} {Iz : Nat → Nat → Int32} {rz : Int32} {k66 : (Nat → Nat → Int32) → Int32 → Int32 → Int32 → (Option ((Nat → Nat → Int32) × Int32))} (hk66 : ∀ (I : Nat → Nat → Int32) (v2 : Int32) (v3 : Int32) (v4 : Int32), k66 I v2 v3 v4 = some (Iz, rz) → ∀ {H : Heap} {locs : List Loc} {ls : Array Slot}, mc_P mr_k 3 w I R H → va_S (mc_A 3 w) s.heap H locs → lv_has ls 5 [(0, .ref (w.2.2.1 0)), (2, .int v2), (3, .int v3), (4, .int v4)] → W p l e ({ frames := 1, cells := 0, slots := 0, locals := 22 } : Room) s m args below meth c H locs 0 0 (MQ below (mc_Q (some (.int rz)) (mc_B mr_k 3 w Iz R) (mc_A 3 w)) args s 0 0 (mc_A 3 w)) (F0 m 66 ls [])) : ∀ (I : Nat → Nat → Int32) (v2 : Int32) (s0 : Int32), mi_X9_readsNumber_J110 k66 F I v2 s0 = some (Iz, rz) → ∀ {H : Heap} {locs : List Loc} {ls : Array Slot}, mc_P mr_k 3 w I R H → va_S (mc_A 3 w) s.heap H locs → lv_has ls 5 [(0, .ref (w.2.2.1 0)), (2, .int v2)] → W p l e ({ frames := 1, cells := 0, slots := 0, locals := 22 } : Room) s m args below meth c H locs 0 0 (MQ below (mc_Q (some (.int rz)) (mc_B mr_k 3 w Iz R) (mc_A 3 w)) args s 0 0 (mc_A 3 w)) (F0 m 110 ls [.int s0]) := by
  intro I v2 s0 h  H locs ls hP hS hl
  have hx := C.1
  have hb := C.2.1
  have hC := And.intro C.1 C.2.1
  unfold mi_X9_readsNumber_J110 at h
  refine lv_istore_n (i := 3) (lv' := [(3, .int s0), (0, .ref (w.2.2.1 0)), (2, .int v2)]) hx hb dX9_readsNumber_110 rfl hl (by decide) rfl (fun ls hl => ?_)
  refine lv_aload_n hx hb dX9_readsNumber_111 rfl (lv_at hl 1 rfl) ?_
  refine lv_dup hx hb dX9_readsNumber_112 rfl ?_
  refine mf_X9_140 C K hP kr_0 dX9_readsNumber_113 ?_
  refine lv_iconst (v := 1) hx hb dX9_readsNumber_116 (by decide) ?_
  refine lv_iadd hx hb dX9_readsNumber_117 ?_
  obtain ⟨I5, eI5, h⟩ := mc_bn_e h
  refine mp_X9_140 C K hP hS kr_0 eI5 dX9_readsNumber_118 (fun H locs hP hS => ?_)
  refine lv_iload_n hx hb dX9_readsNumber_121 rfl (lv_at hl 0 rfl) ?_
  refine lv_if_le (tgt := 180) hx hb dX9_readsNumber_122 (by decide) (fun c6 => ?_) (fun c6 => ?_)
  · replace h := mc_it h c6
    refine lv_iconst (v := 0) hx hb dX9_readsNumber_180 (by decide) ?_
    refine lv_istore (i := 4) (lv' := [(4, .int 0), (3, .int s0), (0, .ref (w.2.2.1 0)), (2, .int v2)]) hx hb dX9_readsNumber_181 hl (by decide) rfl (fun ls hl => ?_)
    refine lv_goto (tgt := 66) hx hb dX9_readsNumber_183 (by decide) ?_
    exact hk66 I5 v2 s0 0 h  hP hS (lv_sub hl [2, 3, 1, 0] rfl)
  · replace h := mc_ie h c6
    refine lv_aload_n hx hb dX9_readsNumber_125 rfl (lv_at hl 1 rfl) ?_
    refine mf_X9_140 C K hP kr_0 dX9_readsNumber_126 ?_
    refine lv_aload_n hx hb dX9_readsNumber_129 rfl (lv_at hl 1 rfl) ?_
    refine mf_X9_137 C K hP kr_0 dX9_readsNumber_130 ?_
    refine lv_icmp_ge (tgt := 180) hx hb dX9_readsNumber_133 (by decide) (fun c7 => ?_) (fun c7 => ?_)
    · replace h := mc_it h c7
      refine lv_iconst (v := 0) hx hb dX9_readsNumber_180 (by decide) ?_
      refine lv_istore (i := 4) (lv' := [(4, .int 0), (3, .int s0), (0, .ref (w.2.2.1 0)), (2, .int v2)]) hx hb dX9_readsNumber_181 hl (by decide) rfl (fun ls hl => ?_)
      refine lv_goto (tgt := 66) hx hb dX9_readsNumber_183 (by decide) ?_
      exact hk66 I5 v2 s0 0 h  hP hS (lv_sub hl [2, 3, 1, 0] rfl)
    · replace h := mc_ie h c7
      refine lv_aload_n hx hb dX9_readsNumber_136 rfl (lv_at hl 1 rfl) ?_
      refine mf_X9_13 C K hP kr_0 dX9_readsNumber_137 ?_
      refine lv_aload_n hx hb dX9_readsNumber_140 rfl (lv_at hl 1 rfl) ?_
      refine mf_X9_140 C K hP kr_0 dX9_readsNumber_141 ?_
      obtain ⟨g8, h⟩ := mc_gd h
      refine ma_l15 hC K hP kr_2 g8 dX9_readsNumber_144 ?_
      refine lv_bipush (v := 48) hx hb dX9_readsNumber_145 (by decide) ?_
      refine lv_bipush (v := 57) hx hb dX9_readsNumber_147 (by decide) ?_
      refine mg_Sz (As := [.int (I5 2 (I5 0 7).toNatClampNeg), .int 48, .int 57]) (rest := []) (ct_X9_in l (w := w) (I := I5) (R := R) rfl) C K hP hS hl.1 ml_X9_81 wy_X9_in wd_X9_in rfl rfl rfl ⟨Nat.le_of_ble_eq_true rfl, Nat.le_of_ble_eq_true rfl⟩ (Nat.le_of_ble_eq_true rfl) ⟨Nat.zero_le _, Nat.zero_le _⟩ dX9_readsNumber_149 (fun H locs hP z10 hS => ?_)
      refine lv_if_eq (tgt := 180) hx hb dX9_readsNumber_152 (by decide) (fun c11 => ?_) (fun c11 => ?_)
      · replace h := mc_it h c11
        refine lv_iconst (v := 0) hx hb dX9_readsNumber_180 (by decide) ?_
        refine lv_istore (i := 4) (lv' := [(4, .int 0), (3, .int s0), (0, .ref (w.2.2.1 0)), (2, .int v2)]) hx hb dX9_readsNumber_181 hl (by decide) rfl (fun ls hl => ?_)
        refine lv_goto (tgt := 66) hx hb dX9_readsNumber_183 (by decide) ?_
        exact hk66 I5 v2 s0 0 h  hP hS (lv_sub hl [2, 3, 1, 0] rfl)
      · replace h := mc_ie h c11
        refine lv_bipush (v := 10) hx hb dX9_readsNumber_155 (by decide) ?_
        refine lv_iload_n hx hb dX9_readsNumber_157 rfl (lv_at hl 0 rfl) ?_
        refine lv_imul hx hb dX9_readsNumber_158 ?_
        refine lv_aload_n hx hb dX9_readsNumber_159 rfl (lv_at hl 1 rfl) ?_
        refine mf_X9_13 C K hP kr_0 dX9_readsNumber_160 ?_
        refine lv_aload_n hx hb dX9_readsNumber_163 rfl (lv_at hl 1 rfl) ?_
        refine mf_X9_140 C K hP kr_0 dX9_readsNumber_164 ?_
        obtain ⟨g12, h⟩ := mc_gd h
        refine ma_l15 hC K hP kr_2 g12 dX9_readsNumber_167 ?_
        refine lv_iadd hx hb dX9_readsNumber_168 ?_
        refine lv_bipush (v := 48) hx hb dX9_readsNumber_169 (by decide) ?_
        refine lv_isub hx hb dX9_readsNumber_171 ?_
        refine lv_iload_n hx hb dX9_readsNumber_172 rfl (lv_at hl 2 rfl) ?_
        refine lv_icmp_gt (tgt := 180) hx hb dX9_readsNumber_173 (by decide) (fun c13 => ?_) (fun c13 => ?_)
        · replace h := mc_it h c13
          refine lv_iconst (v := 0) hx hb dX9_readsNumber_180 (by decide) ?_
          refine lv_istore (i := 4) (lv' := [(4, .int 0), (3, .int s0), (0, .ref (w.2.2.1 0)), (2, .int v2)]) hx hb dX9_readsNumber_181 hl (by decide) rfl (fun ls hl => ?_)
          refine lv_goto (tgt := 66) hx hb dX9_readsNumber_183 (by decide) ?_
          exact hk66 I5 v2 s0 0 h  hP hS (lv_sub hl [2, 3, 1, 0] rfl)
        · replace h := mc_ie h c13
          refine lv_iconst (v := 1) hx hb dX9_readsNumber_176 (by decide) ?_
          refine lv_goto (tgt := 181) hx hb dX9_readsNumber_177 (by decide) ?_
          refine lv_istore (i := 4) (lv' := [(4, .int 1), (3, .int s0), (0, .ref (w.2.2.1 0)), (2, .int v2)]) hx hb dX9_readsNumber_181 hl (by decide) rfl (fun ls hl => ?_)
          refine lv_goto (tgt := 66) hx hb dX9_readsNumber_183 (by decide) ?_
          exact hk66 I5 v2 s0 1 h  hP hS (lv_sub hl [2, 3, 1, 0] rfl)
set_option maxHeartbeats 4000000 in
set_option maxRecDepth 100000 in
theorem bk_X9_readsNumber_B66 {p : Program} {l : Launch} {e : Env} {s : State} {m : MethodId} {args : Array Value} {below : List Frame} {meth : Method} {c : Code} (C : CallFix p m c cX9_readsNumber 5 s args mc_big RX9) (hr : meth.sig.returnType = (some .int)) (hlk : meth.locks = false) {w : mc_w} (K : mc_K mr_k 3 w s) {R : Nat → Nat → Option Nat} {F : Nat} {Iz : Nat → Nat → Int32} {rz : Int32} {k66 : (Nat → Nat → Int32) → Int32 → Int32 → Int32 → (Option ((Nat → Nat → Int32) × Int32))} (hk66 : ∀ (I : Nat → Nat → Int32) (v2 : Int32) (v3 : Int32) (v4 : Int32), k66 I v2 v3 v4 = some (Iz, rz) → ∀ {H : Heap} {locs : List Loc} {ls : Array Slot}, mc_P mr_k 3 w I R H → va_S (mc_A 3 w) s.heap H locs → lv_has ls 5 [(0, .ref (w.2.2.1 0)), (2, .int v2), (3, .int v3), (4, .int v4)] → W p l e ({ frames := 1, cells := 0, slots := 0, locals := 22 } : Room) s m args below meth c H locs 0 0 (MQ below (mc_Q (some (.int rz)) (mc_B mr_k 3 w Iz R) (mc_A 3 w)) args s 0 0 (mc_A 3 w)) (F0 m 66 ls [])) : ∀ (I : Nat → Nat → Int32) (v2 : Int32) (v3 : Int32) (v4 : Int32), mi_X9_readsNumber_B66 k66 F I v2 v3 v4 = some (Iz, rz) → ∀ {H : Heap} {locs : List Loc} {ls : Array Slot}, mc_P mr_k 3 w I R H → va_S (mc_A 3 w) s.heap H locs → lv_has ls 5 [(0, .ref (w.2.2.1 0)), (2, .int v2), (3, .int v3), (4, .int v4)] → W p l e ({ frames := 1, cells := 0, slots := 0, locals := 22 } : Room) s m args below meth c H locs 0 0 (MQ below (mc_Q (some (.int rz)) (mc_B mr_k 3 w Iz R) (mc_A 3 w)) args s 0 0 (mc_A 3 w)) (F0 m 66 ls []) := by
  intro I v2 v3 v4 h  H locs ls hP hS hl
  have hx := C.1
  have hb := C.2.1
  have hC := And.intro C.1 C.2.1
  unfold mi_X9_readsNumber_B66 at h
  refine lv_iload hx hb dX9_readsNumber_66 (lv_at hl 3 rfl) ?_
  refine lv_if_eq (tgt := 186) hx hb dX9_readsNumber_68 (by decide) (fun c2 => ?_) (fun c2 => ?_)
  · replace h := mc_it h c2
    refine lv_iload_n hx hb dX9_readsNumber_186 rfl (lv_at hl 2 rfl) ?_
    cases h
    exact mt_i hC hr hlk K hP hS dX9_readsNumber_187
  · replace h := mc_ie h c2
    refine lv_iload_n hx hb dX9_readsNumber_71 rfl (lv_at hl 2 rfl) ?_
    refine lv_sipush (v := (-1005)) hx hb dX9_readsNumber_72 (by decide) ?_
    refine lv_icmp_ne (tgt := 93) hx hb dX9_readsNumber_75 (by decide) (fun c3 => ?_) (fun c3 => ?_)
    · replace h := mc_ie h c3
      refine lv_bipush (v := 10) hx hb dX9_readsNumber_93 (by decide) ?_
      refine lv_iload_n hx hb dX9_readsNumber_95 rfl (lv_at hl 2 rfl) ?_
      refine lv_imul hx hb dX9_readsNumber_96 ?_
      refine lv_aload_n hx hb dX9_readsNumber_97 rfl (lv_at hl 0 rfl) ?_
      refine mf_X9_13 C K hP kr_0 dX9_readsNumber_98 ?_
      refine lv_aload_n hx hb dX9_readsNumber_101 rfl (lv_at hl 0 rfl) ?_
      refine mf_X9_140 C K hP kr_0 dX9_readsNumber_102 ?_
      obtain ⟨g4, h⟩ := mc_gd h
      refine ma_l15 hC K hP kr_2 g4 dX9_readsNumber_105 ?_
      refine lv_iadd hx hb dX9_readsNumber_106 ?_
      refine lv_bipush (v := 48) hx hb dX9_readsNumber_107 (by decide) ?_
      refine lv_isub hx hb dX9_readsNumber_109 ?_
      exact bk_X9_readsNumber_J110 C hr hlk K hk66 I v2 (((10 * v3) + (I 2 (I 0 7).toNatClampNeg)) - 48) h  hP hS (lv_sub hl [0, 1] rfl)
    · replace h := mc_it h c3
      refine lv_aload_n hx hb dX9_readsNumber_78 rfl (lv_at hl 0 rfl) ?_
      refine mf_X9_13 C K hP kr_0 dX9_readsNumber_79 ?_
      refine lv_aload_n hx hb dX9_readsNumber_82 rfl (lv_at hl 0 rfl) ?_
      refine mf_X9_140 C K hP kr_0 dX9_readsNumber_83 ?_
      obtain ⟨g14, h⟩ := mc_gd h
      refine ma_l15 hC K hP kr_2 g14 dX9_readsNumber_86 ?_
      refine lv_bipush (v := 48) hx hb dX9_readsNumber_87 (by decide) ?_
      refine lv_isub hx hb dX9_readsNumber_89 ?_
      refine lv_goto (tgt := 110) hx hb dX9_readsNumber_90 (by decide) ?_
      exact bk_X9_readsNumber_J110 C hr hlk K hk66 I v2 ((I 2 (I 0 7).toNatClampNeg) - 48) h  hP hS (lv_sub hl [0, 1] rfl)
theorem bk_X9_readsNumber_L66 {p : Program} {l : Launch} {e : Env} {s : State} {m : MethodId} {args : Array Value} {below : List Frame} {meth : Method} {c : Code} (C : CallFix p m c cX9_readsNumber 5 s args mc_big RX9) (hr : meth.sig.returnType = (some .int)) (hlk : meth.locks = false) {w : mc_w} (K : mc_K mr_k 3 w s) {R : Nat → Nat → Option Nat} {F : Nat} {Iz : Nat → Nat → Int32} {rz : Int32} : ∀ n : Nat, ∀ (I : Nat → Nat → Int32) (v2 : Int32) (v3 : Int32) (v4 : Int32), mi_X9_readsNumber_L66 F n I v2 v3 v4 = some (Iz, rz) → ∀ {H : Heap} {locs : List Loc} {ls : Array Slot}, mc_P mr_k 3 w I R H → va_S (mc_A 3 w) s.heap H locs → lv_has ls 5 [(0, .ref (w.2.2.1 0)), (2, .int v2), (3, .int v3), (4, .int v4)] → W p l e ({ frames := 1, cells := 0, slots := 0, locals := 22 } : Room) s m args below meth c H locs 0 0 (MQ below (mc_Q (some (.int rz)) (mc_B mr_k 3 w Iz R) (mc_A 3 w)) args s 0 0 (mc_A 3 w)) (F0 m 66 ls []) := by
  intro n
  induction n with
  | zero =>
    intro I v2 v3 v4 h
    cases h
  | succ n ih =>
    intro I v2 v3 v4 h
    exact bk_X9_readsNumber_B66 C hr hlk K  ih I v2 v3 v4 h
set_option maxHeartbeats 4000000 in
set_option maxRecDepth 100000 in
theorem bk_X9_readsNumber_J35 {p : Program} {l : Launch} {e : Env} {s : State} {m : MethodId} {args : Array Value} {below : List Frame} {meth : Method} {c : Code} (C : CallFix p m c cX9_readsNumber 5 s args mc_big RX9) (hr : meth.sig.returnType = (some .int)) (hlk : meth.locks = false) {w : mc_w} (K : mc_K mr_k 3 w s) {R : Nat → Nat → Option Nat} {F : Nat} {Iz : Nat → Nat → Int32} {rz : Int32} : ∀ (I : Nat → Nat → Int32) (v2 : Int32) (v3 : Int32) (s0 : Int32) (s1 : Int32), mi_X9_readsNumber_J35 F I v2 v3 s0 s1 = some (Iz, rz) → ∀ {H : Heap} {locs : List Loc} {ls : Array Slot}, mc_P mr_k 3 w I R H → va_S (mc_A 3 w) s.heap H locs → lv_has ls 5 [(0, .ref (w.2.2.1 0)), (2, .int v2), (3, .int v3)] → W p l e ({ frames := 1, cells := 0, slots := 0, locals := 22 } : Room) s m args below meth c H locs 0 0 (MQ below (mc_Q (some (.int rz)) (mc_B mr_k 3 w Iz R) (mc_A 3 w)) args s 0 0 (mc_A 3 w)) (F0 m 35 ls [.int s0, .int s1]) := by
  intro I v2 v3 s0 s1 h  H locs ls hP hS hl
  have hx := C.1
  have hb := C.2.1
  have hC := And.intro C.1 C.2.1
  unfold mi_X9_readsNumber_J35 at h
  refine lv_bipush (v := 57) hx hb dX9_readsNumber_35 (by decide) ?_
  refine mg_Sz (As := [.int s1, .int s0, .int 57]) (rest := []) (ct_X9_in l (w := w) (I := I) (R := R) rfl) C K hP hS hl.1 ml_X9_81 wy_X9_in wd_X9_in rfl rfl rfl ⟨Nat.le_of_ble_eq_true rfl, Nat.le_of_ble_eq_true rfl⟩ (Nat.le_of_ble_eq_true rfl) ⟨Nat.zero_le _, Nat.zero_le _⟩ dX9_readsNumber_37 (fun H locs hP z18 hS => ?_)
  refine lv_if_eq (tgt := 63) hx hb dX9_readsNumber_40 (by decide) (fun c19 => ?_) (fun c19 => ?_)
  · replace h := mc_it h c19
    refine lv_iconst (v := 0) hx hb dX9_readsNumber_63 (by decide) ?_
    refine lv_istore (i := 4) (lv' := [(4, .int 0), (0, .ref (w.2.2.1 0)), (2, .int v2), (3, .int v3)]) hx hb dX9_readsNumber_64 hl (by decide) rfl (fun ls hl => ?_)
    exact bk_X9_readsNumber_L66 C hr hlk K  F I v2 v3 0 h  hP hS (lv_sub hl [1, 2, 3, 0] rfl)
  · replace h := mc_ie h c19
    refine lv_aload_n hx hb dX9_readsNumber_43 rfl (lv_at hl 0 rfl) ?_
    refine mf_X9_13 C K hP kr_0 dX9_readsNumber_44 ?_
    refine lv_aload_n hx hb dX9_readsNumber_47 rfl (lv_at hl 0 rfl) ?_
    refine mf_X9_140 C K hP kr_0 dX9_readsNumber_48 ?_
    obtain ⟨g20, h⟩ := mc_gd h
    refine ma_l15 hC K hP kr_2 g20 dX9_readsNumber_51 ?_
    refine lv_bipush (v := 48) hx hb dX9_readsNumber_52 (by decide) ?_
    refine lv_isub hx hb dX9_readsNumber_54 ?_
    refine lv_iload_n hx hb dX9_readsNumber_55 rfl (lv_at hl 1 rfl) ?_
    refine lv_icmp_gt (tgt := 63) hx hb dX9_readsNumber_56 (by decide) (fun c21 => ?_) (fun c21 => ?_)
    · replace h := mc_it h c21
      refine lv_iconst (v := 0) hx hb dX9_readsNumber_63 (by decide) ?_
      refine lv_istore (i := 4) (lv' := [(4, .int 0), (0, .ref (w.2.2.1 0)), (2, .int v2), (3, .int v3)]) hx hb dX9_readsNumber_64 hl (by decide) rfl (fun ls hl => ?_)
      exact bk_X9_readsNumber_L66 C hr hlk K  F I v2 v3 0 h  hP hS (lv_sub hl [1, 2, 3, 0] rfl)
    · replace h := mc_ie h c21
      refine lv_iconst (v := 1) hx hb dX9_readsNumber_59 (by decide) ?_
      refine lv_goto (tgt := 64) hx hb dX9_readsNumber_60 (by decide) ?_
      refine lv_istore (i := 4) (lv' := [(4, .int 1), (0, .ref (w.2.2.1 0)), (2, .int v2), (3, .int v3)]) hx hb dX9_readsNumber_64 hl (by decide) rfl (fun ls hl => ?_)
      exact bk_X9_readsNumber_L66 C hr hlk K  F I v2 v3 1 h  hP hS (lv_sub hl [1, 2, 3, 0] rfl)
set_option maxHeartbeats 4000000 in
set_option maxRecDepth 100000 in
theorem ct_X9_readsNumber (l : Launch) {w : mc_w} {I : Nat → Nat → Int32} {R : Nat → Nat → Option Nat} {F : Nat} {v1 : Int32} {v2 : Int32} {Iz : Nat → Nat → Int32} {rz : Int32} (h : mi_X9_readsNumber F I v1 v2 = some (Iz, rz)) : Met l yX9_readsNumber (Cond.code yX9_readsNumber cX9_readsNumber 5 (some .int) :: mc_big) ({ frames := 1, cells := 0, slots := 0, locals := 22 } : Room) (va_Pc [.ref (w.2.2.1 0), .int v1, .int v2] (mc_B mr_k 3 w I R)) (mc_Q (some (.int rz)) (mc_B mr_k 3 w Iz R) (mc_A 3 w)) 0 0 (mc_A 3 w) := by
  refine Met.ofW (cc := cX9_readsNumber) (maxL := 5) (ret := (some .int)) (by decide) rfl ?_
  intro p e s m args below meth c s₁ B hml hv
  obtain ⟨rfl, hP, K⟩ := hv
  have hown : s.vm.findClass RX9 = some m.cls := findClass_of_methodNamed B.named
  have C : CallFix p m c cX9_readsNumber 5 s _ mc_big RX9 := ⟨B.exec, B.bytes, hml, hown, fun w hw => atoms_spec B.pre w (List.mem_cons_of_mem _ hw)⟩
  have hx := C.1
  have hb := C.2.1
  have hC := And.intro C.1 C.2.1
  have hr := B.returns
  have hlk := B.notSynchronized
  have hS : va_S (mc_A 3 w) s.heap s.heap [] := va_S.rf
  have hl := lv_entry ([.ref (w.2.2.1 0), .int v1, .int v2]) (n := 5) (Nat.le_of_ble_eq_true rfl)
  rw [lg_entry_eq]
  generalize (lg_sl ([.ref (w.2.2.1 0), .int v1, .int v2]) ++ List.replicate (5 - (lg_sl ([.ref (w.2.2.1 0), .int v1, .int v2])).length) Slot.unset).toArray = ls at hl ⊢
  have hl : lv_has ls 5 [(0, .ref (w.2.2.1 0)), (1, .int v1), (2, .int v2)] := hl
  unfold mi_X9_readsNumber at h
  refine lv_sipush (v := (-1005)) hx hb dX9_readsNumber_0 (by decide) ?_
  refine lv_istore_n (i := 3) (lv' := [(3, .int (-1005)), (0, .ref (w.2.2.1 0)), (1, .int v1), (2, .int v2)]) hx hb dX9_readsNumber_3 rfl hl (by decide) rfl (fun ls hl => ?_)
  refine lv_aload_n hx hb dX9_readsNumber_4 rfl (lv_at hl 1 rfl) ?_
  refine mf_X9_140 C K hP kr_0 dX9_readsNumber_5 ?_
  refine lv_aload_n hx hb dX9_readsNumber_8 rfl (lv_at hl 1 rfl) ?_
  refine mf_X9_137 C K hP kr_0 dX9_readsNumber_9 ?_
  refine lv_icmp_ge (tgt := 63) hx hb dX9_readsNumber_12 (by decide) (fun c1 => ?_) (fun c1 => ?_)
  · replace h := mc_it h c1
    refine lv_iconst (v := 0) hx hb dX9_readsNumber_63 (by decide) ?_
    refine lv_istore (i := 4) (lv' := [(4, .int 0), (3, .int (-1005)), (0, .ref (w.2.2.1 0)), (1, .int v1), (2, .int v2)]) hx hb dX9_readsNumber_64 hl (by decide) rfl (fun ls hl => ?_)
    exact bk_X9_readsNumber_L66 C hr hlk K  F I v2 (-1005) 0 h  hP hS (lv_sub hl [2, 4, 1, 0] rfl)
  · replace h := mc_ie h c1
    refine lv_aload_n hx hb dX9_readsNumber_15 rfl (lv_at hl 1 rfl) ?_
    refine mf_X9_13 C K hP kr_0 dX9_readsNumber_16 ?_
    refine lv_aload_n hx hb dX9_readsNumber_19 rfl (lv_at hl 1 rfl) ?_
    refine mf_X9_140 C K hP kr_0 dX9_readsNumber_20 ?_
    obtain ⟨g15, h⟩ := mc_gd h
    refine ma_l15 hC K hP kr_2 g15 dX9_readsNumber_23 ?_
    refine lv_iload_n hx hb dX9_readsNumber_24 rfl (lv_at hl 2 rfl) ?_
    refine lv_if_ne (tgt := 33) hx hb dX9_readsNumber_25 (by decide) (fun c16 => ?_) (fun c16 => ?_)
    · replace h := mc_ie h c16
      refine lv_bipush (v := 49) hx hb dX9_readsNumber_33 (by decide) ?_
      exact bk_X9_readsNumber_J35 C hr hlk K  I v2 (-1005) 49 (I 2 (I 0 7).toNatClampNeg) h  hP hS (lv_sub hl [1, 3, 0] rfl)
    · replace h := mc_it h c16
      refine lv_bipush (v := 48) hx hb dX9_readsNumber_28 (by decide) ?_
      refine lv_goto (tgt := 35) hx hb dX9_readsNumber_30 (by decide) ?_
      exact bk_X9_readsNumber_J35 C hr hlk K  I v2 (-1005) 48 (I 2 (I 0 7).toNatClampNeg) h  hP hS (lv_sub hl [1, 3, 0] rfl)
set_option maxHeartbeats 4000000 in
set_option maxRecDepth 100000 in
theorem bk_X9_part_J160 {p : Program} {l : Launch} {e : Env} {s : State} {m : MethodId} {args : Array Value} {below : List Frame} {meth : Method} {c : Code} (C : CallFix p m c cX9_part 2 s args mc_big RX9) (hr : meth.sig.returnType = (some .int)) (hlk : meth.locks = false) {w : mc_w} (K : mc_K mr_k 3 w s) {R : Nat → Nat → Option Nat} {F : Nat} {Iz : Nat → Nat → Int32} {rz : Int32} : ∀ (I : Nat → Nat → Int32) (v1 : Int32), mi_X9_part_J160 F I v1 = some (Iz, rz) → ∀ {H : Heap} {locs : List Loc} {ls : Array Slot}, mc_P mr_k 3 w I R H → va_S (mc_A 3 w) s.heap H locs → lv_has ls 2 [(0, .ref (w.2.2.1 0)), (1, .int v1)] → W p l e ({ frames := 2, cells := 0, slots := 0, locals := 46 } : Room) s m args below meth c H locs 0 0 (MQ below (mc_Q (some (.int rz)) (mc_B mr_k 3 w Iz R) (mc_A 3 w)) args s 0 0 (mc_A 3 w)) (F0 m 160 ls []) := by
  intro I v1 h  H locs ls hP hS hl
  have hx := C.1
  have hb := C.2.1
  have hC := And.intro C.1 C.2.1
  unfold mi_X9_part_J160 at h
  refine lv_aload_n hx hb dX9_part_160 rfl (lv_at hl 0 rfl) ?_
  refine mf_X9_143 C K hP kr_0 dX9_part_161 ?_
  refine lv_sipush (v := (-1005)) hx hb dX9_part_164 (by decide) ?_
  refine lv_icmp_ne (tgt := 174) hx hb dX9_part_167 (by decide) (fun c5 => ?_) (fun c5 => ?_)
  · replace h := mc_ie h c5
    refine lv_iload_n hx hb dX9_part_174 rfl (lv_at hl 1 rfl) ?_
    cases h
    exact mt_i hC hr hlk K hP hS dX9_part_175
  · replace h := mc_it h c5
    refine lv_iconst (v := 0) hx hb dX9_part_170 (by decide) ?_
    refine lv_goto (tgt := 175) hx hb dX9_part_171 (by decide) ?_
    cases h
    exact mt_i hC hr hlk K hP hS dX9_part_175
set_option maxHeartbeats 4000000 in
set_option maxRecDepth 100000 in
theorem bk_X9_part_J24 {p : Program} {l : Launch} {e : Env} {s : State} {m : MethodId} {args : Array Value} {below : List Frame} {meth : Method} {c : Code} (C : CallFix p m c cX9_part 2 s args mc_big RX9) (hr : meth.sig.returnType = (some .int)) (hlk : meth.locks = false) {w : mc_w} (K : mc_K mr_k 3 w s) {R : Nat → Nat → Option Nat} {F : Nat} {Iz : Nat → Nat → Int32} {rz : Int32} : ∀ (I : Nat → Nat → Int32) (s0 : Int32), mi_X9_part_J24 F I s0 = some (Iz, rz) → ∀ {H : Heap} {locs : List Loc} {ls : Array Slot}, mc_P mr_k 3 w I R H → va_S (mc_A 3 w) s.heap H locs → lv_has ls 2 [(0, .ref (w.2.2.1 0))] → W p l e ({ frames := 2, cells := 0, slots := 0, locals := 46 } : Room) s m args below meth c H locs 0 0 (MQ below (mc_Q (some (.int rz)) (mc_B mr_k 3 w Iz R) (mc_A 3 w)) args s 0 0 (mc_A 3 w)) (F0 m 24 ls [.int s0]) := by
  intro I s0 h  H locs ls hP hS hl
  have hx := C.1
  have hb := C.2.1
  have hC := And.intro C.1 C.2.1
  unfold mi_X9_part_J24 at h
  refine lv_istore_n (i := 1) (lv' := [(1, .int s0), (0, .ref (w.2.2.1 0))]) hx hb dX9_part_24 rfl hl (by decide) rfl (fun ls hl => ?_)
  refine lv_aload_n hx hb dX9_part_25 rfl (lv_at hl 1 rfl) ?_
  refine lv_iconst (v := 0) hx hb dX9_part_26 (by decide) ?_
  obtain ⟨I2, eI2, h⟩ := mc_bn_e h
  refine mp_X9_143 C K hP hS kr_0 eI2 dX9_part_27 (fun H locs hP hS => ?_)
  refine lv_iload_n hx hb dX9_part_30 rfl (lv_at hl 0 rfl) ?_
  by_cases c3 : s0 = 33
  · replace h := mc_it h c3
    refine lv_lookup (off := 114) (tgt := 145) hx hb dX9_part_31 (by decide) (by rw [c3]; decide) (by decide) ?_
    refine lv_aload_n hx hb dX9_part_145 rfl (lv_at hl 1 rfl) ?_
    refine lv_dup hx hb dX9_part_146 rfl ?_
    refine mf_X9_140 C K hP kr_0 dX9_part_147 ?_
    refine lv_iconst (v := 1) hx hb dX9_part_150 (by decide) ?_
    refine lv_iadd hx hb dX9_part_151 ?_
    obtain ⟨I4, eI4, h⟩ := mc_bn_e h
    refine mp_X9_140 C K hP hS kr_0 eI4 dX9_part_152 (fun H locs hP hS => ?_)
    refine lv_goto (tgt := 160) hx hb dX9_part_155 (by decide) ?_
    exact bk_X9_part_J160 C hr hlk K  I4 s0 h  hP hS (lv_sub hl [1, 0] rfl)
  replace h := mc_ie h c3
  by_cases c6 : s0 = 43
  · replace h := mc_it h c6
    refine lv_lookup (off := 65) (tgt := 96) hx hb dX9_part_31 (by decide) (by rw [c6]; decide) (by decide) ?_
    refine lv_aload_n hx hb dX9_part_96 rfl (lv_at hl 1 rfl) ?_
    refine lv_dup hx hb dX9_part_97 rfl ?_
    refine mf_X9_140 C K hP kr_0 dX9_part_98 ?_
    refine lv_iconst (v := 1) hx hb dX9_part_101 (by decide) ?_
    refine lv_iadd hx hb dX9_part_102 ?_
    obtain ⟨I7, eI7, h⟩ := mc_bn_e h
    refine mp_X9_140 C K hP hS kr_0 eI7 dX9_part_103 (fun H locs hP hS => ?_)
    refine lv_aload_n hx hb dX9_part_106 rfl (lv_at hl 1 rfl) ?_
    refine lv_aload_n hx hb dX9_part_107 rfl (lv_at hl 1 rfl) ?_
    refine lv_iconst (v := 1) hx hb dX9_part_108 (by decide) ?_
    refine lv_sipush (v := 999) hx hb dX9_part_109 (by decide) ?_
    obtain ⟨I8, r9, e10, h⟩ := mc_ob2_e h
    refine mg_Vi (As := [.int 1, .int 999]) (rest := [.ref (w.2.2.1 0)]) (ct_X9_readsNumber l (w := w) (I := I7) (R := R) e10) C K hP hS hl.1 kr_0 (by decide) rfl rfl ml_X9_146 wy_X9_readsNumber wd_X9_readsNumber rfl rfl rfl ⟨Nat.le_of_ble_eq_true rfl, Nat.le_of_ble_eq_true rfl⟩ (Nat.le_of_ble_eq_true rfl) ⟨Nat.zero_le _, Nat.zero_le _⟩ dX9_part_112 (fun H locs hP hS => ?_)
    obtain ⟨I11, eI11, h⟩ := mc_bn_e h
    refine mp_X9_143 C K hP hS kr_0 eI11 dX9_part_115 (fun H locs hP hS => ?_)
    refine lv_goto (tgt := 160) hx hb dX9_part_118 (by decide) ?_
    exact bk_X9_part_J160 C hr hlk K  I11 s0 h  hP hS (lv_sub hl [1, 0] rfl)
  replace h := mc_ie h c6
  by_cases c12 : s0 = 45
  · replace h := mc_it h c12
    refine lv_lookup (off := 65) (tgt := 96) hx hb dX9_part_31 (by decide) (by rw [c12]; decide) (by decide) ?_
    refine lv_aload_n hx hb dX9_part_96 rfl (lv_at hl 1 rfl) ?_
    refine lv_dup hx hb dX9_part_97 rfl ?_
    refine mf_X9_140 C K hP kr_0 dX9_part_98 ?_
    refine lv_iconst (v := 1) hx hb dX9_part_101 (by decide) ?_
    refine lv_iadd hx hb dX9_part_102 ?_
    obtain ⟨I13, eI13, h⟩ := mc_bn_e h
    refine mp_X9_140 C K hP hS kr_0 eI13 dX9_part_103 (fun H locs hP hS => ?_)
    refine lv_aload_n hx hb dX9_part_106 rfl (lv_at hl 1 rfl) ?_
    refine lv_aload_n hx hb dX9_part_107 rfl (lv_at hl 1 rfl) ?_
    refine lv_iconst (v := 1) hx hb dX9_part_108 (by decide) ?_
    refine lv_sipush (v := 999) hx hb dX9_part_109 (by decide) ?_
    obtain ⟨I14, r15, e16, h⟩ := mc_ob2_e h
    refine mg_Vi (As := [.int 1, .int 999]) (rest := [.ref (w.2.2.1 0)]) (ct_X9_readsNumber l (w := w) (I := I13) (R := R) e16) C K hP hS hl.1 kr_0 (by decide) rfl rfl ml_X9_146 wy_X9_readsNumber wd_X9_readsNumber rfl rfl rfl ⟨Nat.le_of_ble_eq_true rfl, Nat.le_of_ble_eq_true rfl⟩ (Nat.le_of_ble_eq_true rfl) ⟨Nat.zero_le _, Nat.zero_le _⟩ dX9_part_112 (fun H locs hP hS => ?_)
    obtain ⟨I17, eI17, h⟩ := mc_bn_e h
    refine mp_X9_143 C K hP hS kr_0 eI17 dX9_part_115 (fun H locs hP hS => ?_)
    refine lv_goto (tgt := 160) hx hb dX9_part_118 (by decide) ?_
    exact bk_X9_part_J160 C hr hlk K  I17 s0 h  hP hS (lv_sub hl [1, 0] rfl)
  replace h := mc_ie h c12
  by_cases c18 : s0 = 46
  · replace h := mc_it h c18
    refine lv_lookup (off := 65) (tgt := 96) hx hb dX9_part_31 (by decide) (by rw [c18]; decide) (by decide) ?_
    refine lv_aload_n hx hb dX9_part_96 rfl (lv_at hl 1 rfl) ?_
    refine lv_dup hx hb dX9_part_97 rfl ?_
    refine mf_X9_140 C K hP kr_0 dX9_part_98 ?_
    refine lv_iconst (v := 1) hx hb dX9_part_101 (by decide) ?_
    refine lv_iadd hx hb dX9_part_102 ?_
    obtain ⟨I19, eI19, h⟩ := mc_bn_e h
    refine mp_X9_140 C K hP hS kr_0 eI19 dX9_part_103 (fun H locs hP hS => ?_)
    refine lv_aload_n hx hb dX9_part_106 rfl (lv_at hl 1 rfl) ?_
    refine lv_aload_n hx hb dX9_part_107 rfl (lv_at hl 1 rfl) ?_
    refine lv_iconst (v := 1) hx hb dX9_part_108 (by decide) ?_
    refine lv_sipush (v := 999) hx hb dX9_part_109 (by decide) ?_
    obtain ⟨I20, r21, e22, h⟩ := mc_ob2_e h
    refine mg_Vi (As := [.int 1, .int 999]) (rest := [.ref (w.2.2.1 0)]) (ct_X9_readsNumber l (w := w) (I := I19) (R := R) e22) C K hP hS hl.1 kr_0 (by decide) rfl rfl ml_X9_146 wy_X9_readsNumber wd_X9_readsNumber rfl rfl rfl ⟨Nat.le_of_ble_eq_true rfl, Nat.le_of_ble_eq_true rfl⟩ (Nat.le_of_ble_eq_true rfl) ⟨Nat.zero_le _, Nat.zero_le _⟩ dX9_part_112 (fun H locs hP hS => ?_)
    obtain ⟨I23, eI23, h⟩ := mc_bn_e h
    refine mp_X9_143 C K hP hS kr_0 eI23 dX9_part_115 (fun H locs hP hS => ?_)
    refine lv_goto (tgt := 160) hx hb dX9_part_118 (by decide) ?_
    exact bk_X9_part_J160 C hr hlk K  I23 s0 h  hP hS (lv_sub hl [1, 0] rfl)
  replace h := mc_ie h c18
  by_cases c24 : s0 = 47
  · replace h := mc_it h c24
    refine lv_lookup (off := 90) (tgt := 121) hx hb dX9_part_31 (by decide) (by rw [c24]; decide) (by decide) ?_
    refine lv_aload_n hx hb dX9_part_121 rfl (lv_at hl 1 rfl) ?_
    refine lv_dup hx hb dX9_part_122 rfl ?_
    refine mf_X9_140 C K hP kr_0 dX9_part_123 ?_
    refine lv_iconst (v := 1) hx hb dX9_part_126 (by decide) ?_
    refine lv_iadd hx hb dX9_part_127 ?_
    obtain ⟨I25, eI25, h⟩ := mc_bn_e h
    refine mp_X9_140 C K hP hS kr_0 eI25 dX9_part_128 (fun H locs hP hS => ?_)
    refine lv_aload_n hx hb dX9_part_131 rfl (lv_at hl 1 rfl) ?_
    refine lv_aload_n hx hb dX9_part_132 rfl (lv_at hl 1 rfl) ?_
    refine lv_iconst (v := 0) hx hb dX9_part_133 (by decide) ?_
    refine lv_bipush (v := 6) hx hb dX9_part_134 (by decide) ?_
    obtain ⟨I26, r27, e28, h⟩ := mc_ob2_e h
    refine mg_Vi (As := [.int 0, .int 6]) (rest := [.ref (w.2.2.1 0)]) (ct_X9_readsNumber l (w := w) (I := I25) (R := R) e28) C K hP hS hl.1 kr_0 (by decide) rfl rfl ml_X9_146 wy_X9_readsNumber wd_X9_readsNumber rfl rfl rfl ⟨Nat.le_of_ble_eq_true rfl, Nat.le_of_ble_eq_true rfl⟩ (Nat.le_of_ble_eq_true rfl) ⟨Nat.zero_le _, Nat.zero_le _⟩ dX9_part_136 (fun H locs hP hS => ?_)
    obtain ⟨I29, eI29, h⟩ := mc_bn_e h
    refine mp_X9_143 C K hP hS kr_0 eI29 dX9_part_139 (fun H locs hP hS => ?_)
    refine lv_goto (tgt := 160) hx hb dX9_part_142 (by decide) ?_
    exact bk_X9_part_J160 C hr hlk K  I29 s0 h  hP hS (lv_sub hl [1, 0] rfl)
  replace h := mc_ie h c24
  by_cases c30 : s0 = 98
  · replace h := mc_it h c30
    refine lv_lookup (off := 114) (tgt := 145) hx hb dX9_part_31 (by decide) (by rw [c30]; decide) (by decide) ?_
    refine lv_aload_n hx hb dX9_part_145 rfl (lv_at hl 1 rfl) ?_
    refine lv_dup hx hb dX9_part_146 rfl ?_
    refine mf_X9_140 C K hP kr_0 dX9_part_147 ?_
    refine lv_iconst (v := 1) hx hb dX9_part_150 (by decide) ?_
    refine lv_iadd hx hb dX9_part_151 ?_
    obtain ⟨I31, eI31, h⟩ := mc_bn_e h
    refine mp_X9_140 C K hP hS kr_0 eI31 dX9_part_152 (fun H locs hP hS => ?_)
    refine lv_goto (tgt := 160) hx hb dX9_part_155 (by decide) ?_
    exact bk_X9_part_J160 C hr hlk K  I31 s0 h  hP hS (lv_sub hl [1, 0] rfl)
  replace h := mc_ie h c30
  by_cases c32 : s0 = 109
  · replace h := mc_it h c32
    refine lv_lookup (off := 114) (tgt := 145) hx hb dX9_part_31 (by decide) (by rw [c32]; decide) (by decide) ?_
    refine lv_aload_n hx hb dX9_part_145 rfl (lv_at hl 1 rfl) ?_
    refine lv_dup hx hb dX9_part_146 rfl ?_
    refine mf_X9_140 C K hP kr_0 dX9_part_147 ?_
    refine lv_iconst (v := 1) hx hb dX9_part_150 (by decide) ?_
    refine lv_iadd hx hb dX9_part_151 ?_
    obtain ⟨I33, eI33, h⟩ := mc_bn_e h
    refine mp_X9_140 C K hP hS kr_0 eI33 dX9_part_152 (fun H locs hP hS => ?_)
    refine lv_goto (tgt := 160) hx hb dX9_part_155 (by decide) ?_
    exact bk_X9_part_J160 C hr hlk K  I33 s0 h  hP hS (lv_sub hl [1, 0] rfl)
  replace h := mc_ie h c32
  refine lv_lookup (off := 127) (tgt := 158) hx hb dX9_part_31 (by decide) (mc_lk (l := [(33, 114), (43, 65), (45, 65), (46, 65), (47, 90), (98, 114), (109, 114)]) (by intro q hq; simp only [List.mem_cons, List.not_mem_nil, or_false] at hq; rcases hq with rfl | rfl | rfl | rfl | rfl | rfl | rfl <;> first | exact mc_ne c3 (by decide) | exact mc_ne c6 (by decide) | exact mc_ne c12 (by decide) | exact mc_ne c18 (by decide) | exact mc_ne c24 (by decide) | exact mc_ne c30 (by decide) | exact mc_ne c32 (by decide))) (by decide) ?_
  refine lv_iconst (v := 0) hx hb dX9_part_158 (by decide) ?_
  cases h
  exact mt_i hC hr hlk K hP hS dX9_part_159
set_option maxHeartbeats 4000000 in
set_option maxRecDepth 100000 in
theorem ct_X9_part (l : Launch) {w : mc_w} {I : Nat → Nat → Int32} {R : Nat → Nat → Option Nat} {F : Nat} {Iz : Nat → Nat → Int32} {rz : Int32} (h : mi_X9_part F I = some (Iz, rz)) : Met l yX9_part (Cond.code yX9_part cX9_part 2 (some .int) :: mc_big) ({ frames := 2, cells := 0, slots := 0, locals := 46 } : Room) (va_Pc [.ref (w.2.2.1 0)] (mc_B mr_k 3 w I R)) (mc_Q (some (.int rz)) (mc_B mr_k 3 w Iz R) (mc_A 3 w)) 0 0 (mc_A 3 w) := by
  refine Met.ofW (cc := cX9_part) (maxL := 2) (ret := (some .int)) (by decide) rfl ?_
  intro p e s m args below meth c s₁ B hml hv
  obtain ⟨rfl, hP, K⟩ := hv
  have hown : s.vm.findClass RX9 = some m.cls := findClass_of_methodNamed B.named
  have C : CallFix p m c cX9_part 2 s _ mc_big RX9 := ⟨B.exec, B.bytes, hml, hown, fun w hw => atoms_spec B.pre w (List.mem_cons_of_mem _ hw)⟩
  have hx := C.1
  have hb := C.2.1
  have hC := And.intro C.1 C.2.1
  have hr := B.returns
  have hlk := B.notSynchronized
  have hS : va_S (mc_A 3 w) s.heap s.heap [] := va_S.rf
  have hl := lv_entry ([.ref (w.2.2.1 0)]) (n := 2) (Nat.le_of_ble_eq_true rfl)
  rw [lg_entry_eq]
  generalize (lg_sl ([.ref (w.2.2.1 0)]) ++ List.replicate (2 - (lg_sl ([.ref (w.2.2.1 0)])).length) Slot.unset).toArray = ls at hl ⊢
  have hl : lv_has ls 2 [(0, .ref (w.2.2.1 0))] := hl
  unfold mi_X9_part at h
  refine lv_aload_n hx hb dX9_part_0 rfl (lv_at hl 0 rfl) ?_
  refine mf_X9_140 C K hP kr_0 dX9_part_1 ?_
  refine lv_aload_n hx hb dX9_part_4 rfl (lv_at hl 0 rfl) ?_
  refine mf_X9_137 C K hP kr_0 dX9_part_5 ?_
  refine lv_icmp_ge (tgt := 23) hx hb dX9_part_8 (by decide) (fun c1 => ?_) (fun c1 => ?_)
  · replace h := mc_it h c1
    refine lv_iconst (v := 0) hx hb dX9_part_23 (by decide) ?_
    exact bk_X9_part_J24 C hr hlk K  I 0 h  hP hS (lv_sub hl [0] rfl)
  · replace h := mc_ie h c1
    refine lv_aload_n hx hb dX9_part_11 rfl (lv_at hl 0 rfl) ?_
    refine mf_X9_13 C K hP kr_0 dX9_part_12 ?_
    refine lv_aload_n hx hb dX9_part_15 rfl (lv_at hl 0 rfl) ?_
    refine mf_X9_140 C K hP kr_0 dX9_part_16 ?_
    obtain ⟨g34, h⟩ := mc_gd h
    refine ma_l15 hC K hP kr_2 g34 dX9_part_19 ?_
    refine lv_goto (tgt := 24) hx hb dX9_part_20 (by decide) ?_
    exact bk_X9_part_J24 C hr hlk K  I (I 2 (I 0 7).toNatClampNeg) h  hP hS (lv_sub hl [0] rfl)
set_option maxHeartbeats 4000000 in
set_option maxRecDepth 100000 in
theorem bk_X9_fault_B5 {p : Program} {l : Launch} {e : Env} {s : State} {m : MethodId} {args : Array Value} {below : List Frame} {meth : Method} {c : Code} (C : CallFix p m c cX9_fault 1 s args mc_big RX9) (hr : meth.sig.returnType = (some .int)) (hlk : meth.locks = false) {w : mc_w} (K : mc_K mr_k 3 w s) {R : Nat → Nat → Option Nat} {F : Nat} {Iz : Nat → Nat → Int32} {rz : Int32} {k5 : (Nat → Nat → Int32) → (Option ((Nat → Nat → Int32) × Int32))} (hk5 : ∀ (I : Nat → Nat → Int32), k5 I = some (Iz, rz) → ∀ {H : Heap} {locs : List Loc} {ls : Array Slot}, mc_P mr_k 3 w I R H → va_S (mc_A 3 w) s.heap H locs → lv_has ls 1 [(0, .ref (w.2.2.1 0))] → W p l e ({ frames := 3, cells := 0, slots := 0, locals := 67 } : Room) s m args below meth c H locs 0 0 (MQ below (mc_Q (some (.int rz)) (mc_B mr_k 3 w Iz R) (mc_A 3 w)) args s 0 0 (mc_A 3 w)) (F0 m 5 ls [])) : ∀ (I : Nat → Nat → Int32), mi_X9_fault_B5 k5 F I = some (Iz, rz) → ∀ {H : Heap} {locs : List Loc} {ls : Array Slot}, mc_P mr_k 3 w I R H → va_S (mc_A 3 w) s.heap H locs → lv_has ls 1 [(0, .ref (w.2.2.1 0))] → W p l e ({ frames := 3, cells := 0, slots := 0, locals := 67 } : Room) s m args below meth c H locs 0 0 (MQ below (mc_Q (some (.int rz)) (mc_B mr_k 3 w Iz R) (mc_A 3 w)) args s 0 0 (mc_A 3 w)) (F0 m 5 ls []) := by
  intro I h  H locs ls hP hS hl
  have hx := C.1
  have hb := C.2.1
  have hC := And.intro C.1 C.2.1
  unfold mi_X9_fault_B5 at h
  refine lv_aload_n hx hb dX9_fault_5 rfl (lv_at hl 0 rfl) ?_
  obtain ⟨I2, r3, e4, h⟩ := mc_ob2_e h
  refine mg_Vi (As := []) (rest := []) (ct_X9_part l (w := w) (I := I) (R := R) e4) C K hP hS hl.1 kr_0 (by decide) rfl rfl ml_X9_149 wy_X9_part wd_X9_part rfl rfl rfl ⟨Nat.le_of_ble_eq_true rfl, Nat.le_of_ble_eq_true rfl⟩ (Nat.le_of_ble_eq_true rfl) ⟨Nat.zero_le _, Nat.zero_le _⟩ dX9_fault_6 (fun H locs hP hS => ?_)
  refine lv_if_eq (tgt := 59) hx hb dX9_fault_9 (by decide) (fun c5 => ?_) (fun c5 => ?_)
  · replace h := mc_it h c5
    refine lv_aload_n hx hb dX9_fault_59 rfl (lv_at hl 0 rfl) ?_
    refine mf_X9_140 C K hP kr_0 dX9_fault_60 ?_
    cases h
    exact mt_i hC hr hlk K hP hS dX9_fault_63
  · replace h := mc_ie h c5
    refine lv_aload_n hx hb dX9_fault_12 rfl (lv_at hl 0 rfl) ?_
    refine mf_X9_140 C K hP kr_0 dX9_fault_13 ?_
    refine lv_aload_n hx hb dX9_fault_16 rfl (lv_at hl 0 rfl) ?_
    refine mf_X9_137 C K hP kr_0 dX9_fault_17 ?_
    refine lv_icmp_ne (tgt := 27) hx hb dX9_fault_20 (by decide) (fun c6 => ?_) (fun c6 => ?_)
    · replace h := mc_ie h c6
      refine lv_aload_n hx hb dX9_fault_27 rfl (lv_at hl 0 rfl) ?_
      refine mf_X9_13 C K hP kr_0 dX9_fault_28 ?_
      refine lv_aload_n hx hb dX9_fault_31 rfl (lv_at hl 0 rfl) ?_
      refine mf_X9_140 C K hP kr_0 dX9_fault_32 ?_
      obtain ⟨g7, h⟩ := mc_gd h
      refine ma_l15 hC K hP kr_2 g7 dX9_fault_35 ?_
      refine lv_bipush (v := 59) hx hb dX9_fault_36 (by decide) ?_
      refine lv_icmp_eq (tgt := 46) hx hb dX9_fault_38 (by decide) (fun c8 => ?_) (fun c8 => ?_)
      · replace h := mc_it h c8
        refine lv_aload_n hx hb dX9_fault_46 rfl (lv_at hl 0 rfl) ?_
        refine lv_dup hx hb dX9_fault_47 rfl ?_
        refine mf_X9_140 C K hP kr_0 dX9_fault_48 ?_
        refine lv_iconst (v := 1) hx hb dX9_fault_51 (by decide) ?_
        refine lv_iadd hx hb dX9_fault_52 ?_
        obtain ⟨I9, eI9, h⟩ := mc_bn_e h
        refine mp_X9_140 C K hP hS kr_0 eI9 dX9_fault_53 (fun H locs hP hS => ?_)
        refine lv_goto (tgt := 5) hx hb dX9_fault_56 (by decide) ?_
        exact hk5 I9 h  hP hS (lv_sub hl [0] rfl)
      · replace h := mc_ie h c8
        refine lv_aload_n hx hb dX9_fault_41 rfl (lv_at hl 0 rfl) ?_
        refine mf_X9_140 C K hP kr_0 dX9_fault_42 ?_
        cases h
        exact mt_i hC hr hlk K hP hS dX9_fault_45
    · replace h := mc_it h c6
      refine lv_sipush (v := (-1005)) hx hb dX9_fault_23 (by decide) ?_
      cases h
      exact mt_i hC hr hlk K hP hS dX9_fault_26
theorem bk_X9_fault_L5 {p : Program} {l : Launch} {e : Env} {s : State} {m : MethodId} {args : Array Value} {below : List Frame} {meth : Method} {c : Code} (C : CallFix p m c cX9_fault 1 s args mc_big RX9) (hr : meth.sig.returnType = (some .int)) (hlk : meth.locks = false) {w : mc_w} (K : mc_K mr_k 3 w s) {R : Nat → Nat → Option Nat} {F : Nat} {Iz : Nat → Nat → Int32} {rz : Int32} : ∀ n : Nat, ∀ (I : Nat → Nat → Int32), mi_X9_fault_L5 F n I = some (Iz, rz) → ∀ {H : Heap} {locs : List Loc} {ls : Array Slot}, mc_P mr_k 3 w I R H → va_S (mc_A 3 w) s.heap H locs → lv_has ls 1 [(0, .ref (w.2.2.1 0))] → W p l e ({ frames := 3, cells := 0, slots := 0, locals := 67 } : Room) s m args below meth c H locs 0 0 (MQ below (mc_Q (some (.int rz)) (mc_B mr_k 3 w Iz R) (mc_A 3 w)) args s 0 0 (mc_A 3 w)) (F0 m 5 ls []) := by
  intro n
  induction n with
  | zero =>
    intro I h
    cases h
  | succ n ih =>
    intro I h
    exact bk_X9_fault_B5 C hr hlk K  ih I h
set_option maxHeartbeats 4000000 in
set_option maxRecDepth 100000 in
theorem ct_X9_fault (l : Launch) {w : mc_w} {I : Nat → Nat → Int32} {R : Nat → Nat → Option Nat} {F : Nat} {Iz : Nat → Nat → Int32} {rz : Int32} (h : mi_X9_fault F I = some (Iz, rz)) : Met l yX9_fault (Cond.code yX9_fault cX9_fault 1 (some .int) :: mc_big) ({ frames := 3, cells := 0, slots := 0, locals := 67 } : Room) (va_Pc [.ref (w.2.2.1 0)] (mc_B mr_k 3 w I R)) (mc_Q (some (.int rz)) (mc_B mr_k 3 w Iz R) (mc_A 3 w)) 0 0 (mc_A 3 w) := by
  refine Met.ofW (cc := cX9_fault) (maxL := 1) (ret := (some .int)) (by decide) rfl ?_
  intro p e s m args below meth c s₁ B hml hv
  obtain ⟨rfl, hP, K⟩ := hv
  have hown : s.vm.findClass RX9 = some m.cls := findClass_of_methodNamed B.named
  have C : CallFix p m c cX9_fault 1 s _ mc_big RX9 := ⟨B.exec, B.bytes, hml, hown, fun w hw => atoms_spec B.pre w (List.mem_cons_of_mem _ hw)⟩
  have hx := C.1
  have hb := C.2.1
  have hC := And.intro C.1 C.2.1
  have hr := B.returns
  have hlk := B.notSynchronized
  have hS : va_S (mc_A 3 w) s.heap s.heap [] := va_S.rf
  have hl := lv_entry ([.ref (w.2.2.1 0)]) (n := 1) (Nat.le_of_ble_eq_true rfl)
  rw [lg_entry_eq]
  generalize (lg_sl ([.ref (w.2.2.1 0)]) ++ List.replicate (1 - (lg_sl ([.ref (w.2.2.1 0)])).length) Slot.unset).toArray = ls at hl ⊢
  have hl : lv_has ls 1 [(0, .ref (w.2.2.1 0))] := hl
  unfold mi_X9_fault at h
  refine lv_aload_n hx hb dX9_fault_0 rfl (lv_at hl 0 rfl) ?_
  refine lv_iconst (v := 0) hx hb dX9_fault_1 (by decide) ?_
  obtain ⟨I1, eI1, h⟩ := mc_bn_e h
  refine mp_X9_140 C K hP hS kr_0 eI1 dX9_fault_2 (fun H locs hP hS => ?_)
  exact bk_X9_fault_L5 C hr hlk K  F I1 h  hP hS (lv_sub hl [0] rfl)
set_option maxHeartbeats 4000000 in
set_option maxRecDepth 100000 in
theorem ct_X9_does (l : Launch) {w : mc_w} {I : Nat → Nat → Int32} {R : Nat → Nat → Option Nat} {F : Nat} {v1 : Int32} {Iz : Nat → Nat → Int32} {rz : Int32} (h : mi_X9_does F I v1 = some (Iz, rz)) : Met l yX9_does (Cond.code yX9_does cX9_does 2 (some .int) :: mc_big) ({ frames := 8, cells := 0, slots := 0, locals := 187 } : Room) (va_Pc [.ref (w.2.2.1 0), .int v1] (mc_B mr_k 3 w I R)) (mc_Q (some (.int rz)) (mc_B mr_k 3 w Iz R) (mc_A 3 w)) 0 0 (mc_A 3 w) := by
  refine Met.ofW (cc := cX9_does) (maxL := 2) (ret := (some .int)) (by decide) rfl ?_
  intro p e s m args below meth c s₁ B hml hv
  obtain ⟨rfl, hP, K⟩ := hv
  have hown : s.vm.findClass RX9 = some m.cls := findClass_of_methodNamed B.named
  have C : CallFix p m c cX9_does 2 s _ mc_big RX9 := ⟨B.exec, B.bytes, hml, hown, fun w hw => atoms_spec B.pre w (List.mem_cons_of_mem _ hw)⟩
  have hx := C.1
  have hb := C.2.1
  have hC := And.intro C.1 C.2.1
  have hr := B.returns
  have hlk := B.notSynchronized
  have hS : va_S (mc_A 3 w) s.heap s.heap [] := va_S.rf
  have hl := lv_entry ([.ref (w.2.2.1 0), .int v1]) (n := 2) (Nat.le_of_ble_eq_true rfl)
  rw [lg_entry_eq]
  generalize (lg_sl ([.ref (w.2.2.1 0), .int v1]) ++ List.replicate (2 - (lg_sl ([.ref (w.2.2.1 0), .int v1])).length) Slot.unset).toArray = ls at hl ⊢
  have hl : lv_has ls 2 [(0, .ref (w.2.2.1 0)), (1, .int v1)] := hl
  unfold mi_X9_does at h
  refine lv_iload_n hx hb dX9_does_0 rfl (lv_at hl 1 rfl) ?_
  by_cases c1 : v1 = 33
  · replace h := mc_it h c1
    refine lv_lookup (off := 90) (tgt := 91) hx hb dX9_does_1 (by decide) (by rw [c1]; decide) (by decide) ?_
    refine lv_aload_n hx hb dX9_does_91 rfl (lv_at hl 0 rfl) ?_
    obtain ⟨I2, r3, e4, h⟩ := mc_ob2_e h
    refine mg_Vi (As := []) (rest := []) (ct_X9_sends l (w := w) (I := I) (R := R) e4) C K hP hS hl.1 kr_0 (by decide) rfl rfl ml_X9_124 wy_X9_sends wd_X9_sends rfl rfl rfl ⟨Nat.le_of_ble_eq_true rfl, Nat.le_of_ble_eq_true rfl⟩ (Nat.le_of_ble_eq_true rfl) ⟨Nat.zero_le _, Nat.zero_le _⟩ dX9_does_92 (fun H locs hP hS => ?_)
    cases h
    exact mt_i hC hr hlk K hP hS dX9_does_95
  replace h := mc_ie h c1
  by_cases c5 : v1 = 43
  · replace h := mc_it h c5
    refine lv_lookup (off := 59) (tgt := 60) hx hb dX9_does_1 (by decide) (by rw [c5]; decide) (by decide) ?_
    refine lv_aload_n hx hb dX9_does_60 rfl (lv_at hl 0 rfl) ?_
    refine lv_aload_n hx hb dX9_does_61 rfl (lv_at hl 0 rfl) ?_
    refine mf_X9_143 C K hP kr_0 dX9_does_62 ?_
    obtain ⟨I6, r7, e8, h⟩ := mc_ob2_e h
    refine mg_Vi (As := [.int (I 0 8)]) (rest := []) (ct_X9_pays l (w := w) (I := I) (R := R) e8) C K hP hS hl.1 kr_0 (by decide) rfl rfl ml_X9_106 wy_X9_pays wd_X9_pays rfl rfl rfl ⟨Nat.le_of_ble_eq_true rfl, Nat.le_of_ble_eq_true rfl⟩ (Nat.le_of_ble_eq_true rfl) ⟨Nat.zero_le _, Nat.zero_le _⟩ dX9_does_65 (fun H locs hP hS => ?_)
    cases h
    exact mt_i hC hr hlk K hP hS dX9_does_68
  replace h := mc_ie h c5
  by_cases c9 : v1 = 45
  · replace h := mc_it h c9
    refine lv_lookup (off := 68) (tgt := 69) hx hb dX9_does_1 (by decide) (by rw [c9]; decide) (by decide) ?_
    refine lv_aload_n hx hb dX9_does_69 rfl (lv_at hl 0 rfl) ?_
    refine lv_aload_n hx hb dX9_does_70 rfl (lv_at hl 0 rfl) ?_
    refine mf_X9_143 C K hP kr_0 dX9_does_71 ?_
    refine lv_ineg hx hb dX9_does_74 ?_
    obtain ⟨I10, r11, e12, h⟩ := mc_ob2_e h
    refine mg_Vi (As := [.int (-(I 0 8))]) (rest := []) (ct_X9_pays l (w := w) (I := I) (R := R) e12) C K hP hS hl.1 kr_0 (by decide) rfl rfl ml_X9_106 wy_X9_pays wd_X9_pays rfl rfl rfl ⟨Nat.le_of_ble_eq_true rfl, Nat.le_of_ble_eq_true rfl⟩ (Nat.le_of_ble_eq_true rfl) ⟨Nat.zero_le _, Nat.zero_le _⟩ dX9_does_75 (fun H locs hP hS => ?_)
    cases h
    exact mt_i hC hr hlk K hP hS dX9_does_78
  replace h := mc_ie h c9
  by_cases c13 : v1 = 47
  · replace h := mc_it h c13
    refine lv_lookup (off := 95) (tgt := 96) hx hb dX9_does_1 (by decide) (by rw [c13]; decide) (by decide) ?_
    refine lv_aload_n hx hb dX9_does_96 rfl (lv_at hl 0 rfl) ?_
    refine lv_aload_n hx hb dX9_does_97 rfl (lv_at hl 0 rfl) ?_
    refine mf_X9_143 C K hP kr_0 dX9_does_98 ?_
    obtain ⟨I14, r15, e16, h⟩ := mc_ob2_e h
    refine mg_Vi (As := [.int (I 0 8)]) (rest := []) (ct_X9_slopes l (w := w) (I := I) (R := R) e16) C K hP hS hl.1 kr_0 (by decide) rfl rfl ml_X9_112 wy_X9_slopes wd_X9_slopes rfl rfl rfl ⟨Nat.le_of_ble_eq_true rfl, Nat.le_of_ble_eq_true rfl⟩ (Nat.le_of_ble_eq_true rfl) ⟨Nat.zero_le _, Nat.zero_le _⟩ dX9_does_101 (fun H locs hP hS => ?_)
    cases h
    exact mt_i hC hr hlk K hP hS dX9_does_104
  replace h := mc_ie h c13
  by_cases c17 : v1 = 98
  · replace h := mc_it h c17
    refine lv_lookup (off := 78) (tgt := 79) hx hb dX9_does_1 (by decide) (by rw [c17]; decide) (by decide) ?_
    refine lv_aload_n hx hb dX9_does_79 rfl (lv_at hl 0 rfl) ?_
    refine lv_iconst (v := 0) hx hb dX9_does_80 (by decide) ?_
    obtain ⟨I18, r19, e20, h⟩ := mc_ob2_e h
    refine mg_Vi (As := [.int 0]) (rest := []) (ct_X9_clamps l (w := w) (I := I) (R := R) e20) C K hP hS hl.1 kr_0 (by decide) rfl rfl ml_X9_118 wy_X9_clamps wd_X9_clamps rfl rfl rfl ⟨Nat.le_of_ble_eq_true rfl, Nat.le_of_ble_eq_true rfl⟩ (Nat.le_of_ble_eq_true rfl) ⟨Nat.zero_le _, Nat.zero_le _⟩ dX9_does_81 (fun H locs hP hS => ?_)
    cases h
    exact mt_i hC hr hlk K hP hS dX9_does_84
  replace h := mc_ie h c17
  by_cases c21 : v1 = 109
  · replace h := mc_it h c21
    refine lv_lookup (off := 84) (tgt := 85) hx hb dX9_does_1 (by decide) (by rw [c21]; decide) (by decide) ?_
    refine lv_aload_n hx hb dX9_does_85 rfl (lv_at hl 0 rfl) ?_
    refine lv_iconst (v := 1) hx hb dX9_does_86 (by decide) ?_
    obtain ⟨I22, r23, e24, h⟩ := mc_ob2_e h
    refine mg_Vi (As := [.int 1]) (rest := []) (ct_X9_clamps l (w := w) (I := I) (R := R) e24) C K hP hS hl.1 kr_0 (by decide) rfl rfl ml_X9_118 wy_X9_clamps wd_X9_clamps rfl rfl rfl ⟨Nat.le_of_ble_eq_true rfl, Nat.le_of_ble_eq_true rfl⟩ (Nat.le_of_ble_eq_true rfl) ⟨Nat.zero_le _, Nat.zero_le _⟩ dX9_does_87 (fun H locs hP hS => ?_)
    cases h
    exact mt_i hC hr hlk K hP hS dX9_does_90
  replace h := mc_ie h c21
  refine lv_lookup (off := 104) (tgt := 105) hx hb dX9_does_1 (by decide) (mc_lk (l := [(33, 90), (43, 59), (45, 68), (47, 95), (98, 78), (109, 84)]) (by intro q hq; simp only [List.mem_cons, List.not_mem_nil, or_false] at hq; rcases hq with rfl | rfl | rfl | rfl | rfl | rfl <;> first | exact mc_ne c1 (by decide) | exact mc_ne c5 (by decide) | exact mc_ne c9 (by decide) | exact mc_ne c13 (by decide) | exact mc_ne c17 (by decide) | exact mc_ne c21 (by decide))) (by decide) ?_
  refine lv_aload_n hx hb dX9_does_105 rfl (lv_at hl 0 rfl) ?_
  refine lv_aload_n hx hb dX9_does_106 rfl (lv_at hl 0 rfl) ?_
  refine mf_X9_143 C K hP kr_0 dX9_does_107 ?_
  obtain ⟨I25, r26, e27, h⟩ := mc_ob2_e h
  refine mg_Vi (As := [.int (I 0 8)]) (rest := []) (ct_X9_passes l (w := w) (I := I) (R := R) e27) C K hP hS hl.1 kr_0 (by decide) rfl rfl ml_X9_128 wy_X9_passes wd_X9_passes rfl rfl rfl ⟨Nat.le_of_ble_eq_true rfl, Nat.le_of_ble_eq_true rfl⟩ (Nat.le_of_ble_eq_true rfl) ⟨Nat.zero_le _, Nat.zero_le _⟩ dX9_does_110 (fun H locs hP hS => ?_)
  cases h
  exact mt_i hC hr hlk K hP hS dX9_does_113
set_option maxHeartbeats 4000000 in
set_option maxRecDepth 100000 in
theorem bk_X9_perform_B32 {p : Program} {l : Launch} {e : Env} {s : State} {m : MethodId} {args : Array Value} {below : List Frame} {meth : Method} {c : Code} (C : CallFix p m c cX9_perform 4 s args mc_big RX9) (hr : meth.sig.returnType = (some .int)) (hlk : meth.locks = false) {w : mc_w} (K : mc_K mr_k 3 w s) {R : Nat → Nat → Option Nat} {F : Nat} {Iz : Nat → Nat → Int32} {rz : Int32} {k32 : (Nat → Nat → Int32) → Int32 → (Option ((Nat → Nat → Int32) × Int32))} (hk32 : ∀ (I : Nat → Nat → Int32) (v2 : Int32), k32 I v2 = some (Iz, rz) → ∀ {H : Heap} {locs : List Loc} {ls : Array Slot}, mc_P mr_k 3 w I R H → va_S (mc_A 3 w) s.heap H locs → lv_has ls 4 [(0, .ref (w.2.2.1 0)), (2, .int v2)] → W p l e ({ frames := 9, cells := 0, slots := 0, locals := 208 } : Room) s m args below meth c H locs 0 0 (MQ below (mc_Q (some (.int rz)) (mc_B mr_k 3 w Iz R) (mc_A 3 w)) args s 0 0 (mc_A 3 w)) (F0 m 32 ls [])) : ∀ (I : Nat → Nat → Int32) (v2 : Int32), mi_X9_perform_B32 k32 F I v2 = some (Iz, rz) → ∀ {H : Heap} {locs : List Loc} {ls : Array Slot}, mc_P mr_k 3 w I R H → va_S (mc_A 3 w) s.heap H locs → lv_has ls 4 [(0, .ref (w.2.2.1 0)), (2, .int v2)] → W p l e ({ frames := 9, cells := 0, slots := 0, locals := 208 } : Room) s m args below meth c H locs 0 0 (MQ below (mc_Q (some (.int rz)) (mc_B mr_k 3 w Iz R) (mc_A 3 w)) args s 0 0 (mc_A 3 w)) (F0 m 32 ls []) := by
  intro I v2 h  H locs ls hP hS hl
  have hx := C.1
  have hb := C.2.1
  have hC := And.intro C.1 C.2.1
  unfold mi_X9_perform_B32 at h
  refine lv_aload_n hx hb dX9_perform_32 rfl (lv_at hl 0 rfl) ?_
  refine mf_X9_140 C K hP kr_0 dX9_perform_33 ?_
  refine lv_aload_n hx hb dX9_perform_36 rfl (lv_at hl 0 rfl) ?_
  refine mf_X9_137 C K hP kr_0 dX9_perform_37 ?_
  refine lv_icmp_ge (tgt := 103) hx hb dX9_perform_40 (by decide) (fun c8 => ?_) (fun c8 => ?_)
  · replace h := mc_it h c8
    refine lv_aload_n hx hb dX9_perform_103 rfl (lv_at hl 0 rfl) ?_
    refine lv_bipush (v := 6) hx hb dX9_perform_104 (by decide) ?_
    obtain ⟨I9, e10, h⟩ := mc_ob_e h
    refine mg_Vv (As := [.int 6]) (rest := []) (ct_X9_records l (w := w) (I := I) (R := R) e10) C K hP hS hl.1 kr_0 (by decide) rfl rfl ml_X9_102 wy_X9_records wd_X9_records rfl rfl rfl ⟨Nat.le_of_ble_eq_true rfl, Nat.le_of_ble_eq_true rfl⟩ (Nat.le_of_ble_eq_true rfl) ⟨Nat.zero_le _, Nat.zero_le _⟩ dX9_perform_106 (fun H locs hP hS => ?_)
    refine lv_iload_n hx hb dX9_perform_109 rfl (lv_at hl 1 rfl) ?_
    cases h
    exact mt_i hC hr hlk K hP hS dX9_perform_110
  · replace h := mc_ie h c8
    refine lv_aload_n hx hb dX9_perform_43 rfl (lv_at hl 0 rfl) ?_
    refine lv_aload_n hx hb dX9_perform_44 rfl (lv_at hl 0 rfl) ?_
    obtain ⟨I11, r12, e13, h⟩ := mc_ob2_e h
    refine mg_Vi (As := []) (rest := [.ref (w.2.2.1 0)]) (ct_X9_part l (w := w) (I := I) (R := R) e13) C K hP hS hl.1 kr_0 (by decide) rfl rfl ml_X9_149 wy_X9_part wd_X9_part rfl rfl rfl ⟨Nat.le_of_ble_eq_true rfl, Nat.le_of_ble_eq_true rfl⟩ (Nat.le_of_ble_eq_true rfl) ⟨Nat.zero_le _, Nat.zero_le _⟩ dX9_perform_45 (fun H locs hP hS => ?_)
    obtain ⟨I14, r15, e16, h⟩ := mc_ob2_e h
    refine mg_Vi (As := [.int r12]) (rest := []) (ct_X9_does l (w := w) (I := I11) (R := R) e16) C K hP hS hl.1 kr_0 (by decide) rfl rfl ml_X9_155 wy_X9_does wd_X9_does rfl rfl rfl ⟨Nat.le_of_ble_eq_true rfl, Nat.le_of_ble_eq_true rfl⟩ (Nat.le_of_ble_eq_true rfl) ⟨Nat.zero_le _, Nat.zero_le _⟩ dX9_perform_48 (fun H locs hP hS => ?_)
    refine lv_istore_n (i := 3) (lv' := [(3, .int r15), (0, .ref (w.2.2.1 0)), (2, .int v2)]) hx hb dX9_perform_51 rfl hl (by decide) rfl (fun ls hl => ?_)
    refine lv_iload_n hx hb dX9_perform_52 rfl (lv_at hl 0 rfl) ?_
    refine mg_Sz (As := [.int r15]) (rest := []) (ct_X9_isDone l (w := w) (I := I14) (R := R) rfl) C K hP hS hl.1 ml_X9_99 wy_X9_isDone wd_X9_isDone rfl rfl rfl ⟨Nat.le_of_ble_eq_true rfl, Nat.le_of_ble_eq_true rfl⟩ (Nat.le_of_ble_eq_true rfl) ⟨Nat.zero_le _, Nat.zero_le _⟩ dX9_perform_53 (fun H locs hP z18 hS => ?_)
    refine lv_if_ne (tgt := 87) hx hb dX9_perform_56 (by decide) (fun c19 => ?_) (fun c19 => ?_)
    · replace h := mc_ie h c19
      obtain ⟨x20, ex20, h⟩ := mc_bn_e h
      refine lv_iinc (v := x20) (lv' := [(2, .int x20), (3, .int r15), (0, .ref (w.2.2.1 0))]) hx hb dX9_perform_87 hl (k := 2) rfl (by rw [ex20]; rfl) (by decide) rfl (fun ls hl => ?_)
      refine lv_aload_n hx hb dX9_perform_90 rfl (lv_at hl 2 rfl) ?_
      refine lv_dup hx hb dX9_perform_91 rfl ?_
      refine mf_X9_140 C K hP kr_0 dX9_perform_92 ?_
      refine lv_iconst (v := 1) hx hb dX9_perform_95 (by decide) ?_
      refine lv_iadd hx hb dX9_perform_96 ?_
      obtain ⟨I21, eI21, h⟩ := mc_bn_e h
      refine mp_X9_140 C K hP hS kr_0 eI21 dX9_perform_97 (fun H locs hP hS => ?_)
      refine lv_goto (tgt := 32) hx hb dX9_perform_100 (by decide) ?_
      exact hk32 I21 x20 h  hP hS (lv_sub hl [2, 0] rfl)
    · replace h := mc_it h c19
      refine lv_iload_n hx hb dX9_perform_59 rfl (lv_at hl 0 rfl) ?_
      refine lv_sipush (v := (-1005)) hx hb dX9_perform_60 (by decide) ?_
      refine lv_icmp_eq (tgt := 87) hx hb dX9_perform_63 (by decide) (fun c22 => ?_) (fun c22 => ?_)
      · replace h := mc_it h c22
        obtain ⟨x23, ex23, h⟩ := mc_bn_e h
        refine lv_iinc (v := x23) (lv' := [(2, .int x23), (3, .int r15), (0, .ref (w.2.2.1 0))]) hx hb dX9_perform_87 hl (k := 2) rfl (by rw [ex23]; rfl) (by decide) rfl (fun ls hl => ?_)
        refine lv_aload_n hx hb dX9_perform_90 rfl (lv_at hl 2 rfl) ?_
        refine lv_dup hx hb dX9_perform_91 rfl ?_
        refine mf_X9_140 C K hP kr_0 dX9_perform_92 ?_
        refine lv_iconst (v := 1) hx hb dX9_perform_95 (by decide) ?_
        refine lv_iadd hx hb dX9_perform_96 ?_
        obtain ⟨I24, eI24, h⟩ := mc_bn_e h
        refine mp_X9_140 C K hP hS kr_0 eI24 dX9_perform_97 (fun H locs hP hS => ?_)
        refine lv_goto (tgt := 32) hx hb dX9_perform_100 (by decide) ?_
        exact hk32 I24 x23 h  hP hS (lv_sub hl [2, 0] rfl)
      · replace h := mc_ie h c22
        refine lv_aload_n hx hb dX9_perform_66 rfl (lv_at hl 1 rfl) ?_
        refine lv_bipush (v := 6) hx hb dX9_perform_67 (by decide) ?_
        refine lv_iconst (v := 0) hx hb dX9_perform_69 (by decide) ?_
        obtain ⟨I25, e26, h⟩ := mc_ob_e h
        refine mg_Vv (As := [.int 6, .int 0]) (rest := []) (ct_X9_copies l (w := w) (I := I14) (R := R) e26) C K hP hS hl.1 kr_0 (by decide) rfl rfl ml_X9_26 wy_X9_copies wd_X9_copies rfl rfl rfl ⟨Nat.le_of_ble_eq_true rfl, Nat.le_of_ble_eq_true rfl⟩ (Nat.le_of_ble_eq_true rfl) ⟨Nat.zero_le _, Nat.zero_le _⟩ dX9_perform_70 (fun H locs hP hS => ?_)
        refine lv_aload_n hx hb dX9_perform_73 rfl (lv_at hl 1 rfl) ?_
        refine lv_iload_n hx hb dX9_perform_74 rfl (lv_at hl 2 rfl) ?_
        obtain ⟨I27, eI27, h⟩ := mc_bn_e h
        refine mp_X9_16 C K hP hS kr_0 eI27 dX9_perform_75 (fun H locs hP hS => ?_)
        refine lv_aload_n hx hb dX9_perform_78 rfl (lv_at hl 1 rfl) ?_
        refine lv_iload_n hx hb dX9_perform_79 rfl (lv_at hl 0 rfl) ?_
        obtain ⟨I28, eI28, h⟩ := mc_bn_e h
        refine mp_X9_20 C K hP hS kr_0 eI28 dX9_perform_80 (fun H locs hP hS => ?_)
        refine lv_sipush (v := (-1004)) hx hb dX9_perform_83 (by decide) ?_
        cases h
        exact mt_i hC hr hlk K hP hS dX9_perform_86
theorem bk_X9_perform_L32 {p : Program} {l : Launch} {e : Env} {s : State} {m : MethodId} {args : Array Value} {below : List Frame} {meth : Method} {c : Code} (C : CallFix p m c cX9_perform 4 s args mc_big RX9) (hr : meth.sig.returnType = (some .int)) (hlk : meth.locks = false) {w : mc_w} (K : mc_K mr_k 3 w s) {R : Nat → Nat → Option Nat} {F : Nat} {Iz : Nat → Nat → Int32} {rz : Int32} : ∀ n : Nat, ∀ (I : Nat → Nat → Int32) (v2 : Int32), mi_X9_perform_L32 F n I v2 = some (Iz, rz) → ∀ {H : Heap} {locs : List Loc} {ls : Array Slot}, mc_P mr_k 3 w I R H → va_S (mc_A 3 w) s.heap H locs → lv_has ls 4 [(0, .ref (w.2.2.1 0)), (2, .int v2)] → W p l e ({ frames := 9, cells := 0, slots := 0, locals := 208 } : Room) s m args below meth c H locs 0 0 (MQ below (mc_Q (some (.int rz)) (mc_B mr_k 3 w Iz R) (mc_A 3 w)) args s 0 0 (mc_A 3 w)) (F0 m 32 ls []) := by
  intro n
  induction n with
  | zero =>
    intro I v2 h
    cases h
  | succ n ih =>
    intro I v2 h
    exact bk_X9_perform_B32 C hr hlk K  ih I v2 h
set_option maxHeartbeats 4000000 in
set_option maxRecDepth 100000 in
theorem ct_X9_perform (l : Launch) {w : mc_w} {I : Nat → Nat → Int32} {R : Nat → Nat → Option Nat} {F : Nat} {Iz : Nat → Nat → Int32} {rz : Int32} (h : mi_X9_perform F I = some (Iz, rz)) : Met l yX9_perform (Cond.code yX9_perform cX9_perform 4 (some .int) :: mc_big) ({ frames := 9, cells := 0, slots := 0, locals := 208 } : Room) (va_Pc [.ref (w.2.2.1 0)] (mc_B mr_k 3 w I R)) (mc_Q (some (.int rz)) (mc_B mr_k 3 w Iz R) (mc_A 3 w)) 0 0 (mc_A 3 w) := by
  refine Met.ofW (cc := cX9_perform) (maxL := 4) (ret := (some .int)) (by decide) rfl ?_
  intro p e s m args below meth c s₁ B hml hv
  obtain ⟨rfl, hP, K⟩ := hv
  have hown : s.vm.findClass RX9 = some m.cls := findClass_of_methodNamed B.named
  have C : CallFix p m c cX9_perform 4 s _ mc_big RX9 := ⟨B.exec, B.bytes, hml, hown, fun w hw => atoms_spec B.pre w (List.mem_cons_of_mem _ hw)⟩
  have hx := C.1
  have hb := C.2.1
  have hC := And.intro C.1 C.2.1
  have hr := B.returns
  have hlk := B.notSynchronized
  have hS : va_S (mc_A 3 w) s.heap s.heap [] := va_S.rf
  have hl := lv_entry ([.ref (w.2.2.1 0)]) (n := 4) (Nat.le_of_ble_eq_true rfl)
  rw [lg_entry_eq]
  generalize (lg_sl ([.ref (w.2.2.1 0)]) ++ List.replicate (4 - (lg_sl ([.ref (w.2.2.1 0)])).length) Slot.unset).toArray = ls at hl ⊢
  have hl : lv_has ls 4 [(0, .ref (w.2.2.1 0))] := hl
  unfold mi_X9_perform at h
  refine lv_aload_n hx hb dX9_perform_0 rfl (lv_at hl 0 rfl) ?_
  obtain ⟨I1, r2, e3, h⟩ := mc_ob2_e h
  refine mg_Vi (As := []) (rest := []) (ct_X9_fault l (w := w) (I := I) (R := R) e3) C K hP hS hl.1 kr_0 (by decide) rfl rfl ml_X9_152 wy_X9_fault wd_X9_fault rfl rfl rfl ⟨Nat.le_of_ble_eq_true rfl, Nat.le_of_ble_eq_true rfl⟩ (Nat.le_of_ble_eq_true rfl) ⟨Nat.zero_le _, Nat.zero_le _⟩ dX9_perform_1 (fun H locs hP hS => ?_)
  refine lv_istore_n (i := 1) (lv' := [(1, .int r2), (0, .ref (w.2.2.1 0))]) hx hb dX9_perform_4 rfl hl (by decide) rfl (fun ls hl => ?_)
  refine lv_iload_n hx hb dX9_perform_5 rfl (lv_at hl 0 rfl) ?_
  refine lv_sipush (v := (-1005)) hx hb dX9_perform_6 (by decide) ?_
  refine lv_icmp_eq (tgt := 18) hx hb dX9_perform_9 (by decide) (fun c4 => ?_) (fun c4 => ?_)
  · replace h := mc_it h c4
    refine lv_aload_n hx hb dX9_perform_18 rfl (lv_at hl 1 rfl) ?_
    refine lv_iconst (v := 0) hx hb dX9_perform_19 (by decide) ?_
    refine lv_bipush (v := 6) hx hb dX9_perform_20 (by decide) ?_
    obtain ⟨I5, e6, h⟩ := mc_ob_e h
    refine mg_Vv (As := [.int 0, .int 6]) (rest := []) (ct_X9_copies l (w := w) (I := I1) (R := R) e6) C K hP hS hl.1 kr_0 (by decide) rfl rfl ml_X9_26 wy_X9_copies wd_X9_copies rfl rfl rfl ⟨Nat.le_of_ble_eq_true rfl, Nat.le_of_ble_eq_true rfl⟩ (Nat.le_of_ble_eq_true rfl) ⟨Nat.zero_le _, Nat.zero_le _⟩ dX9_perform_22 (fun H locs hP hS => ?_)
    refine lv_aload_n hx hb dX9_perform_25 rfl (lv_at hl 1 rfl) ?_
    refine lv_iconst (v := 0) hx hb dX9_perform_26 (by decide) ?_
    obtain ⟨I7, eI7, h⟩ := mc_bn_e h
    refine mp_X9_140 C K hP hS kr_0 eI7 dX9_perform_27 (fun H locs hP hS => ?_)
    refine lv_iconst (v := 0) hx hb dX9_perform_30 (by decide) ?_
    refine lv_istore_n (i := 2) (lv' := [(2, .int 0), (1, .int r2), (0, .ref (w.2.2.1 0))]) hx hb dX9_perform_31 rfl hl (by decide) rfl (fun ls hl => ?_)
    exact bk_X9_perform_L32 C hr hlk K  F I7 0 h  hP hS (lv_sub hl [2, 0] rfl)
  · replace h := mc_ie h c4
    refine lv_sipush (v := (-1100)) hx hb dX9_perform_12 (by decide) ?_
    refine lv_iload_n hx hb dX9_perform_15 rfl (lv_at hl 0 rfl) ?_
    refine lv_isub hx hb dX9_perform_16 ?_
    cases h
    exact mt_i hC hr hlk K hP hS dX9_perform_17
set_option maxHeartbeats 4000000 in
set_option maxRecDepth 100000 in
theorem ct_X9_stopped (l : Launch) {w : mc_w} {I : Nat → Nat → Int32} {R : Nat → Nat → Option Nat} {v1 : Int32} {rz : Int32} (h : mi_X9_stopped I v1 = rz) : Met l yX9_stopped (Cond.code yX9_stopped cX9_stopped 2 (some .int) :: mc_big) ({ frames := 1, cells := 0, slots := 0, locals := 22 } : Room) (va_Pc [.ref (w.2.2.1 0), .int v1] (mc_B mr_k 3 w I R)) (mc_Q (some (.int rz)) (mc_B mr_k 3 w I R) (mc_A 3 w)) 0 0 (mc_A 3 w) := by
  refine Met.ofW (cc := cX9_stopped) (maxL := 2) (ret := (some .int)) (by decide) rfl ?_
  intro p e s m args below meth c s₁ B hml hv
  obtain ⟨rfl, hP, K⟩ := hv
  have hown : s.vm.findClass RX9 = some m.cls := findClass_of_methodNamed B.named
  have C : CallFix p m c cX9_stopped 2 s _ mc_big RX9 := ⟨B.exec, B.bytes, hml, hown, fun w hw => atoms_spec B.pre w (List.mem_cons_of_mem _ hw)⟩
  have hx := C.1
  have hb := C.2.1
  have hC := And.intro C.1 C.2.1
  have hr := B.returns
  have hlk := B.notSynchronized
  have hS : va_S (mc_A 3 w) s.heap s.heap [] := va_S.rf
  have hl := lv_entry ([.ref (w.2.2.1 0), .int v1]) (n := 2) (Nat.le_of_ble_eq_true rfl)
  rw [lg_entry_eq]
  generalize (lg_sl ([.ref (w.2.2.1 0), .int v1]) ++ List.replicate (2 - (lg_sl ([.ref (w.2.2.1 0), .int v1])).length) Slot.unset).toArray = ls at hl ⊢
  have hl : lv_has ls 2 [(0, .ref (w.2.2.1 0)), (1, .int v1)] := hl
  unfold mi_X9_stopped at h
  refine lv_iload_n hx hb dX9_stopped_0 rfl (lv_at hl 1 rfl) ?_
  refine lv_iconst (v := 0) hx hb dX9_stopped_1 (by decide) ?_
  refine lv_iconst (v := 1) hx hb dX9_stopped_2 (by decide) ?_
  refine mg_Sz (As := [.int v1, .int 0, .int 1]) (rest := []) (ct_X9_in l (w := w) (I := I) (R := R) rfl) C K hP hS hl.1 ml_X9_81 wy_X9_in wd_X9_in rfl rfl rfl ⟨Nat.le_of_ble_eq_true rfl, Nat.le_of_ble_eq_true rfl⟩ (Nat.le_of_ble_eq_true rfl) ⟨Nat.zero_le _, Nat.zero_le _⟩ dX9_stopped_3 (fun H locs hP z2 hS => ?_)
  refine lv_if_ne (tgt := 15) hx hb dX9_stopped_6 (by decide) (fun c3 => ?_) (fun c3 => ?_)
  · replace h := mc_ie h c3
    refine lv_iload_n hx hb dX9_stopped_15 rfl (lv_at hl 1 rfl) ?_
    refine lv_if_ne (tgt := 26) hx hb dX9_stopped_16 (by decide) (fun c4 => ?_) (fun c4 => ?_)
    · replace h := mc_ie h c4
      refine lv_aload_n hx hb dX9_stopped_26 rfl (lv_at hl 0 rfl) ?_
      refine mf_X9_20 C K hP kr_0 dX9_stopped_27 ?_
      cases h
      exact mt_i hC hr hlk K hP hS dX9_stopped_30
    · replace h := mc_it h c4
      refine lv_aload_n hx hb dX9_stopped_19 rfl (lv_at hl 0 rfl) ?_
      refine mf_X9_16 C K hP kr_0 dX9_stopped_20 ?_
      refine lv_goto (tgt := 30) hx hb dX9_stopped_23 (by decide) ?_
      cases h
      exact mt_i hC hr hlk K hP hS dX9_stopped_30
  · replace h := mc_it h c3
    refine lv_sipush (v := (-1002)) hx hb dX9_stopped_9 (by decide) ?_
    refine lv_goto (tgt := 30) hx hb dX9_stopped_12 (by decide) ?_
    cases h
    exact mt_i hC hr hlk K hP hS dX9_stopped_30
set_option maxHeartbeats 4000000 in
set_option maxRecDepth 100000 in
theorem ct_X9_undo (l : Launch) {w : mc_w} {I : Nat → Nat → Int32} {R : Nat → Nat → Option Nat} {F : Nat} {Iz : Nat → Nat → Int32} {rz : Int32} (h : mi_X9_undo F I = some (Iz, rz)) : Met l yX9_undo (Cond.code yX9_undo cX9_undo 1 (some .int) :: mc_big) ({ frames := 1, cells := 0, slots := 0, locals := 23 } : Room) (va_Pc [.ref (w.2.2.1 0)] (mc_B mr_k 3 w I R)) (mc_Q (some (.int rz)) (mc_B mr_k 3 w Iz R) (mc_A 3 w)) 0 0 (mc_A 3 w) := by
  refine Met.ofW (cc := cX9_undo) (maxL := 1) (ret := (some .int)) (by decide) rfl ?_
  intro p e s m args below meth c s₁ B hml hv
  obtain ⟨rfl, hP, K⟩ := hv
  have hown : s.vm.findClass RX9 = some m.cls := findClass_of_methodNamed B.named
  have C : CallFix p m c cX9_undo 1 s _ mc_big RX9 := ⟨B.exec, B.bytes, hml, hown, fun w hw => atoms_spec B.pre w (List.mem_cons_of_mem _ hw)⟩
  have hx := C.1
  have hb := C.2.1
  have hC := And.intro C.1 C.2.1
  have hr := B.returns
  have hlk := B.notSynchronized
  have hS : va_S (mc_A 3 w) s.heap s.heap [] := va_S.rf
  have hl := lv_entry ([.ref (w.2.2.1 0)]) (n := 1) (Nat.le_of_ble_eq_true rfl)
  rw [lg_entry_eq]
  generalize (lg_sl ([.ref (w.2.2.1 0)]) ++ List.replicate (1 - (lg_sl ([.ref (w.2.2.1 0)])).length) Slot.unset).toArray = ls at hl ⊢
  have hl : lv_has ls 1 [(0, .ref (w.2.2.1 0))] := hl
  unfold mi_X9_undo at h
  refine lv_aload_n hx hb dX9_undo_0 rfl (lv_at hl 0 rfl) ?_
  refine mf_X9_23 C K hP kr_0 dX9_undo_1 ?_
  refine lv_if_ne (tgt := 11) hx hb dX9_undo_4 (by decide) (fun c1 => ?_) (fun c1 => ?_)
  · replace h := mc_ie h c1
    refine lv_aload_n hx hb dX9_undo_11 rfl (lv_at hl 0 rfl) ?_
    refine lv_aload_n hx hb dX9_undo_12 rfl (lv_at hl 0 rfl) ?_
    refine mf_X9_23 C K hP kr_0 dX9_undo_13 ?_
    refine lv_iconst (v := 0) hx hb dX9_undo_16 (by decide) ?_
    obtain ⟨I2, e3, h⟩ := mc_ob_e h
    refine mg_Vv (As := [.int (I 0 1), .int 0]) (rest := []) (ct_X9_copies l (w := w) (I := I) (R := R) e3) C K hP hS hl.1 kr_0 (by decide) rfl rfl ml_X9_26 wy_X9_copies wd_X9_copies rfl rfl rfl ⟨Nat.le_of_ble_eq_true rfl, Nat.le_of_ble_eq_true rfl⟩ (Nat.le_of_ble_eq_true rfl) ⟨Nat.zero_le _, Nat.zero_le _⟩ dX9_undo_17 (fun H locs hP hS => ?_)
    refine lv_aload_n hx hb dX9_undo_20 rfl (lv_at hl 0 rfl) ?_
    refine lv_dup hx hb dX9_undo_21 rfl ?_
    refine mf_X9_23 C K hP kr_0 dX9_undo_22 ?_
    refine lv_iconst (v := 1) hx hb dX9_undo_25 (by decide) ?_
    refine lv_isub hx hb dX9_undo_26 ?_
    obtain ⟨I4, eI4, h⟩ := mc_bn_e h
    refine mp_X9_23 C K hP hS kr_0 eI4 dX9_undo_27 (fun H locs hP hS => ?_)
    refine lv_aload_n hx hb dX9_undo_30 rfl (lv_at hl 0 rfl) ?_
    refine mf_X9_23 C K hP kr_0 dX9_undo_31 ?_
    cases h
    exact mt_i hC hr hlk K hP hS dX9_undo_34
  · replace h := mc_it h c1
    refine lv_sipush (v := (-1005)) hx hb dX9_undo_7 (by decide) ?_
    cases h
    exact mt_i hC hr hlk K hP hS dX9_undo_10
set_option maxHeartbeats 4000000 in
set_option maxRecDepth 100000 in
theorem ct_X9_keep (l : Launch) {w : mc_w} {I : Nat → Nat → Int32} {R : Nat → Nat → Option Nat} {F : Nat} {Iz : Nat → Nat → Int32} {rz : Int32} (h : mi_X9_keep F I = some (Iz, rz)) : Met l yX9_keep (Cond.code yX9_keep cX9_keep 1 (some .int) :: mc_big) ({ frames := 1, cells := 0, slots := 0, locals := 23 } : Room) (va_Pc [.ref (w.2.2.1 0)] (mc_B mr_k 3 w I R)) (mc_Q (some (.int rz)) (mc_B mr_k 3 w Iz R) (mc_A 3 w)) 0 0 (mc_A 3 w) := by
  refine Met.ofW (cc := cX9_keep) (maxL := 1) (ret := (some .int)) (by decide) rfl ?_
  intro p e s m args below meth c s₁ B hml hv
  obtain ⟨rfl, hP, K⟩ := hv
  have hown : s.vm.findClass RX9 = some m.cls := findClass_of_methodNamed B.named
  have C : CallFix p m c cX9_keep 1 s _ mc_big RX9 := ⟨B.exec, B.bytes, hml, hown, fun w hw => atoms_spec B.pre w (List.mem_cons_of_mem _ hw)⟩
  have hx := C.1
  have hb := C.2.1
  have hC := And.intro C.1 C.2.1
  have hr := B.returns
  have hlk := B.notSynchronized
  have hS : va_S (mc_A 3 w) s.heap s.heap [] := va_S.rf
  have hl := lv_entry ([.ref (w.2.2.1 0)]) (n := 1) (Nat.le_of_ble_eq_true rfl)
  rw [lg_entry_eq]
  generalize (lg_sl ([.ref (w.2.2.1 0)]) ++ List.replicate (1 - (lg_sl ([.ref (w.2.2.1 0)])).length) Slot.unset).toArray = ls at hl ⊢
  have hl : lv_has ls 1 [(0, .ref (w.2.2.1 0))] := hl
  unfold mi_X9_keep at h
  refine lv_aload_n hx hb dX9_keep_0 rfl (lv_at hl 0 rfl) ?_
  refine lv_iconst (v := 0) hx hb dX9_keep_1 (by decide) ?_
  refine lv_iconst (v := 5) hx hb dX9_keep_2 (by decide) ?_
  obtain ⟨I1, e2, h⟩ := mc_ob_e h
  refine mg_Vv (As := [.int 0, .int 5]) (rest := []) (ct_X9_copies l (w := w) (I := I) (R := R) e2) C K hP hS hl.1 kr_0 (by decide) rfl rfl ml_X9_26 wy_X9_copies wd_X9_copies rfl rfl rfl ⟨Nat.le_of_ble_eq_true rfl, Nat.le_of_ble_eq_true rfl⟩ (Nat.le_of_ble_eq_true rfl) ⟨Nat.zero_le _, Nat.zero_le _⟩ dX9_keep_3 (fun H locs hP hS => ?_)
  refine lv_aload_n hx hb dX9_keep_6 rfl (lv_at hl 0 rfl) ?_
  refine lv_iconst (v := 1) hx hb dX9_keep_7 (by decide) ?_
  obtain ⟨I3, eI3, h⟩ := mc_bn_e h
  refine mp_X9_158 C K hP hS kr_0 eI3 ⟨by decide, by decide⟩ dX9_keep_8 (fun H locs hP hS => ?_)
  refine lv_aload_n hx hb dX9_keep_11 rfl (lv_at hl 0 rfl) ?_
  refine mf_X9_7 C K hP kr_0 dX9_keep_12 ?_
  refine lv_iconst (v := 4) hx hb dX9_keep_15 (by decide) ?_
  obtain ⟨g4, h⟩ := mc_gd h
  refine ma_l16 hC K hP kr_1 g4 dX9_keep_16 ?_
  cases h
  exact mt_i hC hr hlk K hP hS dX9_keep_17
set_option maxHeartbeats 4000000 in
set_option maxRecDepth 100000 in
theorem ct_X9_restore (l : Launch) {w : mc_w} {I : Nat → Nat → Int32} {R : Nat → Nat → Option Nat} {F : Nat} {Iz : Nat → Nat → Int32} {rz : Int32} (h : mi_X9_restore F I = some (Iz, rz)) : Met l yX9_restore (Cond.code yX9_restore cX9_restore 1 (some .int) :: mc_big) ({ frames := 2, cells := 0, slots := 0, locals := 45 } : Room) (va_Pc [.ref (w.2.2.1 0)] (mc_B mr_k 3 w I R)) (mc_Q (some (.int rz)) (mc_B mr_k 3 w Iz R) (mc_A 3 w)) 0 0 (mc_A 3 w) := by
  refine Met.ofW (cc := cX9_restore) (maxL := 1) (ret := (some .int)) (by decide) rfl ?_
  intro p e s m args below meth c s₁ B hml hv
  obtain ⟨rfl, hP, K⟩ := hv
  have hown : s.vm.findClass RX9 = some m.cls := findClass_of_methodNamed B.named
  have C : CallFix p m c cX9_restore 1 s _ mc_big RX9 := ⟨B.exec, B.bytes, hml, hown, fun w hw => atoms_spec B.pre w (List.mem_cons_of_mem _ hw)⟩
  have hx := C.1
  have hb := C.2.1
  have hC := And.intro C.1 C.2.1
  have hr := B.returns
  have hlk := B.notSynchronized
  have hS : va_S (mc_A 3 w) s.heap s.heap [] := va_S.rf
  have hl := lv_entry ([.ref (w.2.2.1 0)]) (n := 1) (Nat.le_of_ble_eq_true rfl)
  rw [lg_entry_eq]
  generalize (lg_sl ([.ref (w.2.2.1 0)]) ++ List.replicate (1 - (lg_sl ([.ref (w.2.2.1 0)])).length) Slot.unset).toArray = ls at hl ⊢
  have hl : lv_has ls 1 [(0, .ref (w.2.2.1 0))] := hl
  unfold mi_X9_restore at h
  refine lv_aload_n hx hb dX9_restore_0 rfl (lv_at hl 0 rfl) ?_
  refine mf_X9_158 C K hP kr_0 dX9_restore_1 ?_
  refine lv_if_ne (tgt := 11) hx hb dX9_restore_4 (by decide) (fun c1 => ?_) (fun c1 => ?_)
  · replace h := mc_ie h c1
    refine lv_aload_n hx hb dX9_restore_11 rfl (lv_at hl 0 rfl) ?_
    refine lv_iconst (v := 0) hx hb dX9_restore_12 (by decide) ?_
    obtain ⟨I2, e3, h⟩ := mc_ob_e h
    refine mg_Vv (As := [.int 0]) (rest := []) (ct_X9_records l (w := w) (I := I) (R := R) e3) C K hP hS hl.1 kr_0 (by decide) rfl rfl ml_X9_102 wy_X9_records wd_X9_records rfl rfl rfl ⟨Nat.le_of_ble_eq_true rfl, Nat.le_of_ble_eq_true rfl⟩ (Nat.le_of_ble_eq_true rfl) ⟨Nat.zero_le _, Nat.zero_le _⟩ dX9_restore_13 (fun H locs hP hS => ?_)
    refine lv_aload_n hx hb dX9_restore_16 rfl (lv_at hl 0 rfl) ?_
    refine lv_iconst (v := 5) hx hb dX9_restore_17 (by decide) ?_
    refine lv_iconst (v := 0) hx hb dX9_restore_18 (by decide) ?_
    obtain ⟨I4, e5, h⟩ := mc_ob_e h
    refine mg_Vv (As := [.int 5, .int 0]) (rest := []) (ct_X9_copies l (w := w) (I := I2) (R := R) e5) C K hP hS hl.1 kr_0 (by decide) rfl rfl ml_X9_26 wy_X9_copies wd_X9_copies rfl rfl rfl ⟨Nat.le_of_ble_eq_true rfl, Nat.le_of_ble_eq_true rfl⟩ (Nat.le_of_ble_eq_true rfl) ⟨Nat.zero_le _, Nat.zero_le _⟩ dX9_restore_19 (fun H locs hP hS => ?_)
    refine lv_aload_n hx hb dX9_restore_22 rfl (lv_at hl 0 rfl) ?_
    refine mf_X9_7 C K hP kr_0 dX9_restore_23 ?_
    refine lv_iconst (v := 4) hx hb dX9_restore_26 (by decide) ?_
    obtain ⟨g6, h⟩ := mc_gd h
    refine ma_l16 hC K hP kr_1 g6 dX9_restore_27 ?_
    cases h
    exact mt_i hC hr hlk K hP hS dX9_restore_28
  · replace h := mc_it h c1
    refine lv_sipush (v := (-1005)) hx hb dX9_restore_7 (by decide) ?_
    cases h
    exact mt_i hC hr hlk K hP hS dX9_restore_10
set_option maxHeartbeats 4000000 in
set_option maxRecDepth 100000 in
theorem ct_X9_pairDepth (l : Launch) {w : mc_w} {I : Nat → Nat → Int32} {R : Nat → Nat → Option Nat} {v1 : Int32} {rz : Int32} (h : mi_X9_pairDepth I v1 = some rz) : Met l yX9_pairDepth (Cond.code yX9_pairDepth cX9_pairDepth 3 (some .int) :: mc_big) ({ frames := 1, cells := 0, slots := 0, locals := 21 } : Room) (va_Pc [.ref (w.2.2.1 0), .int v1] (mc_B mr_k 3 w I R)) (mc_Q (some (.int rz)) (mc_B mr_k 3 w I R) (mc_A 3 w)) 0 0 (mc_A 3 w) := by
  refine Met.ofW (cc := cX9_pairDepth) (maxL := 3) (ret := (some .int)) (by decide) rfl ?_
  intro p e s m args below meth c s₁ B hml hv
  obtain ⟨rfl, hP, K⟩ := hv
  have hown : s.vm.findClass RX9 = some m.cls := findClass_of_methodNamed B.named
  have C : CallFix p m c cX9_pairDepth 3 s _ mc_big RX9 := ⟨B.exec, B.bytes, hml, hown, fun w hw => atoms_spec B.pre w (List.mem_cons_of_mem _ hw)⟩
  have hx := C.1
  have hb := C.2.1
  have hC := And.intro C.1 C.2.1
  have hr := B.returns
  have hlk := B.notSynchronized
  have hS : va_S (mc_A 3 w) s.heap s.heap [] := va_S.rf
  have hl := lv_entry ([.ref (w.2.2.1 0), .int v1]) (n := 3) (Nat.le_of_ble_eq_true rfl)
  rw [lg_entry_eq]
  generalize (lg_sl ([.ref (w.2.2.1 0), .int v1]) ++ List.replicate (3 - (lg_sl ([.ref (w.2.2.1 0), .int v1])).length) Slot.unset).toArray = ls at hl ⊢
  have hl : lv_has ls 3 [(0, .ref (w.2.2.1 0)), (1, .int v1)] := hl
  unfold mi_X9_pairDepth at h
  refine lv_iconst (v := 0) hx hb dX9_pairDepth_0 (by decide) ?_
  refine lv_iload_n hx hb dX9_pairDepth_1 rfl (lv_at hl 1 rfl) ?_
  refine mg_Si (As := [.int 0, .int v1]) (rest := []) (ct_X9_bottleAt l (w := w) (I := I) (R := R) rfl) C K hP hS hl.1 ml_X9_34 wy_X9_bottleAt wd_X9_bottleAt rfl rfl rfl ⟨Nat.le_of_ble_eq_true rfl, Nat.le_of_ble_eq_true rfl⟩ (Nat.le_of_ble_eq_true rfl) ⟨Nat.zero_le _, Nat.zero_le _⟩ dX9_pairDepth_2 (fun H locs hP hS => ?_)
  obtain ⟨x2, ex2, h⟩ := mc_bn_e h
  refine mv_top ex2 ?_
  refine lv_istore_n (i := 2) (lv' := [(2, .int x2), (0, .ref (w.2.2.1 0)), (1, .int v1)]) hx hb dX9_pairDepth_5 rfl hl (by decide) rfl (fun ls hl => ?_)
  refine lv_bipush (v := 10) hx hb dX9_pairDepth_6 (by decide) ?_
  refine lv_aload_n hx hb dX9_pairDepth_8 rfl (lv_at hl 1 rfl) ?_
  refine mf_X9_7 C K hP kr_0 dX9_pairDepth_9 ?_
  refine lv_iload_n hx hb dX9_pairDepth_12 rfl (lv_at hl 0 rfl) ?_
  refine lv_bipush (v := 7) hx hb dX9_pairDepth_13 (by decide) ?_
  refine lv_iadd hx hb dX9_pairDepth_15 ?_
  obtain ⟨g3, h⟩ := mc_gd h
  refine ma_l16 hC K hP kr_1 g3 dX9_pairDepth_16 ?_
  refine lv_aload_n hx hb dX9_pairDepth_17 rfl (lv_at hl 1 rfl) ?_
  refine mf_X9_7 C K hP kr_0 dX9_pairDepth_18 ?_
  refine lv_iload_n hx hb dX9_pairDepth_21 rfl (lv_at hl 0 rfl) ?_
  refine lv_bipush (v := 6) hx hb dX9_pairDepth_22 (by decide) ?_
  refine lv_iadd hx hb dX9_pairDepth_24 ?_
  obtain ⟨g4, h⟩ := mc_gd h
  refine ma_l16 hC K hP kr_1 g4 dX9_pairDepth_25 ?_
  refine lv_isub hx hb dX9_pairDepth_26 ?_
  refine lv_imul hx hb dX9_pairDepth_27 ?_
  cases h
  exact mt_i hC hr hlk K hP hS dX9_pairDepth_28
set_option maxHeartbeats 4000000 in
set_option maxRecDepth 100000 in
theorem ct_X9_difference (l : Launch) {w : mc_w} {I : Nat → Nat → Int32} {R : Nat → Nat → Option Nat} {v1 : Int32} {rz : Int32} (h : mi_X9_difference I v1 = some rz) : Met l yX9_difference (Cond.code yX9_difference cX9_difference 2 (some .int) :: mc_big) ({ frames := 2, cells := 0, slots := 0, locals := 43 } : Room) (va_Pc [.ref (w.2.2.1 0), .int v1] (mc_B mr_k 3 w I R)) (mc_Q (some (.int rz)) (mc_B mr_k 3 w I R) (mc_A 3 w)) 0 0 (mc_A 3 w) := by
  refine Met.ofW (cc := cX9_difference) (maxL := 2) (ret := (some .int)) (by decide) rfl ?_
  intro p e s m args below meth c s₁ B hml hv
  obtain ⟨rfl, hP, K⟩ := hv
  have hown : s.vm.findClass RX9 = some m.cls := findClass_of_methodNamed B.named
  have C : CallFix p m c cX9_difference 2 s _ mc_big RX9 := ⟨B.exec, B.bytes, hml, hown, fun w hw => atoms_spec B.pre w (List.mem_cons_of_mem _ hw)⟩
  have hx := C.1
  have hb := C.2.1
  have hC := And.intro C.1 C.2.1
  have hr := B.returns
  have hlk := B.notSynchronized
  have hS : va_S (mc_A 3 w) s.heap s.heap [] := va_S.rf
  have hl := lv_entry ([.ref (w.2.2.1 0), .int v1]) (n := 2) (Nat.le_of_ble_eq_true rfl)
  rw [lg_entry_eq]
  generalize (lg_sl ([.ref (w.2.2.1 0), .int v1]) ++ List.replicate (2 - (lg_sl ([.ref (w.2.2.1 0), .int v1])).length) Slot.unset).toArray = ls at hl ⊢
  have hl : lv_has ls 2 [(0, .ref (w.2.2.1 0)), (1, .int v1)] := hl
  unfold mi_X9_difference at h
  refine lv_aload_n hx hb dX9_difference_0 rfl (lv_at hl 0 rfl) ?_
  refine lv_iload_n hx hb dX9_difference_1 rfl (lv_at hl 1 rfl) ?_
  obtain ⟨r1, e2, h⟩ := mc_ob_e h
  refine mg_Vi (As := [.int v1]) (rest := []) (ct_X9_pairDepth l (w := w) (I := I) (R := R) e2) C K hP hS hl.1 kr_0 (by decide) rfl rfl ml_X9_162 wy_X9_pairDepth wd_X9_pairDepth rfl rfl rfl ⟨Nat.le_of_ble_eq_true rfl, Nat.le_of_ble_eq_true rfl⟩ (Nat.le_of_ble_eq_true rfl) ⟨Nat.zero_le _, Nat.zero_le _⟩ dX9_difference_2 (fun H locs hP hS => ?_)
  refine lv_aload_n hx hb dX9_difference_5 rfl (lv_at hl 0 rfl) ?_
  refine mf_X9_7 C K hP kr_0 dX9_difference_6 ?_
  refine lv_iconst (v := 0) hx hb dX9_difference_9 (by decide) ?_
  refine lv_iload_n hx hb dX9_difference_10 rfl (lv_at hl 1 rfl) ?_
  refine mg_Si (As := [.int 0, .int v1]) (rest := [.ref (w.2.2.1 1), .int r1]) (ct_X9_bottleAt l (w := w) (I := I) (R := R) rfl) C K hP hS hl.1 ml_X9_34 wy_X9_bottleAt wd_X9_bottleAt rfl rfl rfl ⟨Nat.le_of_ble_eq_true rfl, Nat.le_of_ble_eq_true rfl⟩ (Nat.le_of_ble_eq_true rfl) ⟨Nat.zero_le _, Nat.zero_le _⟩ dX9_difference_11 (fun H locs hP hS => ?_)
  refine lv_bipush (v := 9) hx hb dX9_difference_14 (by decide) ?_
  refine lv_iadd hx hb dX9_difference_16 ?_
  obtain ⟨g4, h⟩ := mc_gd h
  refine ma_l16 hC K hP kr_1 g4 dX9_difference_17 ?_
  refine lv_isub hx hb dX9_difference_18 ?_
  refine mg_Si (As := [.int (r1 - (I 1 ((mi_X9_bottleAt 0 v1) + 9).toNatClampNeg))]) (rest := []) (ct_X9_size l (w := w) (I := I) (R := R) rfl) C K hP hS hl.1 ml_X9_85 wy_X9_size wd_X9_size rfl rfl rfl ⟨Nat.le_of_ble_eq_true rfl, Nat.le_of_ble_eq_true rfl⟩ (Nat.le_of_ble_eq_true rfl) ⟨Nat.zero_le _, Nat.zero_le _⟩ dX9_difference_19 (fun H locs hP hS => ?_)
  cases h
  exact mt_i hC hr hlk K hP hS dX9_difference_22
set_option maxHeartbeats 4000000 in
set_option maxRecDepth 100000 in
theorem ct_X9_isShut (l : Launch) {w : mc_w} {I : Nat → Nat → Int32} {R : Nat → Nat → Option Nat} {v1 : Int32} {rz : Int32} (h : mi_X9_isShut I v1 = some rz) : Met l yX9_isShut (Cond.code yX9_isShut cX9_isShut 2 (some .boolean) :: mc_big) ({ frames := 1, cells := 0, slots := 0, locals := 21 } : Room) (va_Pc [.ref (w.2.2.1 0), .int v1] (mc_B mr_k 3 w I R)) (mc_Q (some (.int rz)) (fun t => mc_B mr_k 3 w I R t ∧ ¬ (rz ≠ 0 ∧ rz ≠ 1)) (mc_A 3 w)) 0 0 (mc_A 3 w) := by
  refine Met.ofW (cc := cX9_isShut) (maxL := 2) (ret := (some .boolean)) (by decide) rfl ?_
  intro p e s m args below meth c s₁ B hml hv
  obtain ⟨rfl, hP, K⟩ := hv
  have hown : s.vm.findClass RX9 = some m.cls := findClass_of_methodNamed B.named
  have C : CallFix p m c cX9_isShut 2 s _ mc_big RX9 := ⟨B.exec, B.bytes, hml, hown, fun w hw => atoms_spec B.pre w (List.mem_cons_of_mem _ hw)⟩
  have hx := C.1
  have hb := C.2.1
  have hC := And.intro C.1 C.2.1
  have hr := B.returns
  have hlk := B.notSynchronized
  have hS : va_S (mc_A 3 w) s.heap s.heap [] := va_S.rf
  have hl := lv_entry ([.ref (w.2.2.1 0), .int v1]) (n := 2) (Nat.le_of_ble_eq_true rfl)
  rw [lg_entry_eq]
  generalize (lg_sl ([.ref (w.2.2.1 0), .int v1]) ++ List.replicate (2 - (lg_sl ([.ref (w.2.2.1 0), .int v1])).length) Slot.unset).toArray = ls at hl ⊢
  have hl : lv_has ls 2 [(0, .ref (w.2.2.1 0)), (1, .int v1)] := hl
  unfold mi_X9_isShut at h
  refine lv_aload_n hx hb dX9_isShut_0 rfl (lv_at hl 0 rfl) ?_
  refine mf_X9_7 C K hP kr_0 dX9_isShut_1 ?_
  refine lv_iconst (v := 0) hx hb dX9_isShut_4 (by decide) ?_
  refine lv_iload_n hx hb dX9_isShut_5 rfl (lv_at hl 1 rfl) ?_
  refine mg_Si (As := [.int 0, .int v1]) (rest := [.ref (w.2.2.1 1)]) (ct_X9_bottleAt l (w := w) (I := I) (R := R) rfl) C K hP hS hl.1 ml_X9_34 wy_X9_bottleAt wd_X9_bottleAt rfl rfl rfl ⟨Nat.le_of_ble_eq_true rfl, Nat.le_of_ble_eq_true rfl⟩ (Nat.le_of_ble_eq_true rfl) ⟨Nat.zero_le _, Nat.zero_le _⟩ dX9_isShut_6 (fun H locs hP hS => ?_)
  refine lv_iconst (v := 1) hx hb dX9_isShut_9 (by decide) ?_
  refine lv_iadd hx hb dX9_isShut_10 ?_
  obtain ⟨g2, h⟩ := mc_gd h
  refine ma_l16 hC K hP kr_1 g2 dX9_isShut_11 ?_
  refine lv_iconst (v := 1) hx hb dX9_isShut_12 (by decide) ?_
  refine lv_icmp_ne (tgt := 20) hx hb dX9_isShut_13 (by decide) (fun c3 => ?_) (fun c3 => ?_)
  · replace h := mc_ie h c3
    refine lv_iconst (v := 0) hx hb dX9_isShut_20 (by decide) ?_
    cases h
    exact mt_zX hC hr hlk K hP hS (by decide) (by decide) dX9_isShut_21
  · replace h := mc_it h c3
    refine lv_iconst (v := 1) hx hb dX9_isShut_16 (by decide) ?_
    refine lv_goto (tgt := 21) hx hb dX9_isShut_17 (by decide) ?_
    cases h
    exact mt_zX hC hr hlk K hP hS (by decide) (by decide) dX9_isShut_21
set_option maxHeartbeats 4000000 in
set_option maxRecDepth 100000 in
theorem ct_X9_asShut (l : Launch) {w : mc_w} {I : Nat → Nat → Int32} {R : Nat → Nat → Option Nat} {v1 : Int32} {v2 : Int32} {rz : Int32} (h : mi_X9_asShut I v1 v2 = some rz) : Met l yX9_asShut (Cond.code yX9_asShut cX9_asShut 4 (some .int) :: mc_big) ({ frames := 3, cells := 0, slots := 0, locals := 64 } : Room) (va_Pc [.ref (w.2.2.1 0), .int v1, .int v2] (mc_B mr_k 3 w I R)) (mc_Q (some (.int rz)) (mc_B mr_k 3 w I R) (mc_A 3 w)) 0 0 (mc_A 3 w) := by
  refine Met.ofW (cc := cX9_asShut) (maxL := 4) (ret := (some .int)) (by decide) rfl ?_
  intro p e s m args below meth c s₁ B hml hv
  obtain ⟨rfl, hP, K⟩ := hv
  have hown : s.vm.findClass RX9 = some m.cls := findClass_of_methodNamed B.named
  have C : CallFix p m c cX9_asShut 4 s _ mc_big RX9 := ⟨B.exec, B.bytes, hml, hown, fun w hw => atoms_spec B.pre w (List.mem_cons_of_mem _ hw)⟩
  have hx := C.1
  have hb := C.2.1
  have hC := And.intro C.1 C.2.1
  have hr := B.returns
  have hlk := B.notSynchronized
  have hS : va_S (mc_A 3 w) s.heap s.heap [] := va_S.rf
  have hl := lv_entry ([.ref (w.2.2.1 0), .int v1, .int v2]) (n := 4) (Nat.le_of_ble_eq_true rfl)
  rw [lg_entry_eq]
  generalize (lg_sl ([.ref (w.2.2.1 0), .int v1, .int v2]) ++ List.replicate (4 - (lg_sl ([.ref (w.2.2.1 0), .int v1, .int v2])).length) Slot.unset).toArray = ls at hl ⊢
  have hl : lv_has ls 4 [(0, .ref (w.2.2.1 0)), (1, .int v1), (2, .int v2)] := hl
  unfold mi_X9_asShut at h
  refine lv_iconst (v := 0) hx hb dX9_asShut_0 (by decide) ?_
  refine lv_iload_n hx hb dX9_asShut_1 rfl (lv_at hl 1 rfl) ?_
  refine mg_Si (As := [.int 0, .int v1]) (rest := []) (ct_X9_bottleAt l (w := w) (I := I) (R := R) rfl) C K hP hS hl.1 ml_X9_34 wy_X9_bottleAt wd_X9_bottleAt rfl rfl rfl ⟨Nat.le_of_ble_eq_true rfl, Nat.le_of_ble_eq_true rfl⟩ (Nat.le_of_ble_eq_true rfl) ⟨Nat.zero_le _, Nat.zero_le _⟩ dX9_asShut_2 (fun H locs hP hS => ?_)
  obtain ⟨x2, ex2, h⟩ := mc_bn_e h
  refine mv_top ex2 ?_
  refine lv_istore_n (i := 3) (lv' := [(3, .int x2), (0, .ref (w.2.2.1 0)), (1, .int v1), (2, .int v2)]) hx hb dX9_asShut_5 rfl hl (by decide) rfl (fun ls hl => ?_)
  refine lv_iload_n hx hb dX9_asShut_6 rfl (lv_at hl 3 rfl) ?_
  by_cases c3 : v2 = 6
  · replace h := mc_it h c3
    refine lv_tableIn (off := 37) (tgt := 44) hx hb dX9_asShut_7 (by rw [c3]; decide) (by rw [c3]; decide) (by rw [c3]; decide) (by decide) ?_
    refine lv_aload_n hx hb dX9_asShut_44 rfl (lv_at hl 1 rfl) ?_
    refine mf_X9_7 C K hP kr_0 dX9_asShut_45 ?_
    refine lv_iload_n hx hb dX9_asShut_48 rfl (lv_at hl 0 rfl) ?_
    refine lv_iconst (v := 5) hx hb dX9_asShut_49 (by decide) ?_
    refine lv_iadd hx hb dX9_asShut_50 ?_
    obtain ⟨g4, h⟩ := mc_gd h
    refine ma_l16 hC K hP kr_1 g4 dX9_asShut_51 ?_
    cases h
    exact mt_i hC hr hlk K hP hS dX9_asShut_52
  replace h := mc_ie h c3
  by_cases c5 : v2 = 7
  · replace h := mc_it h c5
    refine lv_tableIn (off := 46) (tgt := 53) hx hb dX9_asShut_7 (by rw [c5]; decide) (by rw [c5]; decide) (by rw [c5]; decide) (by decide) ?_
    refine lv_aload_n hx hb dX9_asShut_53 rfl (lv_at hl 1 rfl) ?_
    refine mf_X9_7 C K hP kr_0 dX9_asShut_54 ?_
    refine lv_iload_n hx hb dX9_asShut_57 rfl (lv_at hl 0 rfl) ?_
    refine lv_bipush (v := 6) hx hb dX9_asShut_58 (by decide) ?_
    refine lv_iadd hx hb dX9_asShut_60 ?_
    obtain ⟨g6, h⟩ := mc_gd h
    refine ma_l16 hC K hP kr_1 g6 dX9_asShut_61 ?_
    cases h
    exact mt_i hC hr hlk K hP hS dX9_asShut_62
  replace h := mc_ie h c5
  by_cases c7 : v2 = 8
  · replace h := mc_it h c7
    refine lv_tableIn (off := 56) (tgt := 63) hx hb dX9_asShut_7 (by rw [c7]; decide) (by rw [c7]; decide) (by rw [c7]; decide) (by decide) ?_
    refine lv_aload_n hx hb dX9_asShut_63 rfl (lv_at hl 1 rfl) ?_
    refine mf_X9_7 C K hP kr_0 dX9_asShut_64 ?_
    refine lv_iload_n hx hb dX9_asShut_67 rfl (lv_at hl 0 rfl) ?_
    refine lv_bipush (v := 7) hx hb dX9_asShut_68 (by decide) ?_
    refine lv_iadd hx hb dX9_asShut_70 ?_
    obtain ⟨g8, h⟩ := mc_gd h
    refine ma_l16 hC K hP kr_1 g8 dX9_asShut_71 ?_
    cases h
    exact mt_i hC hr hlk K hP hS dX9_asShut_72
  replace h := mc_ie h c7
  by_cases c9 : v2 = 9
  · replace h := mc_it h c9
    refine lv_tableIn (off := 66) (tgt := 73) hx hb dX9_asShut_7 (by rw [c9]; decide) (by rw [c9]; decide) (by rw [c9]; decide) (by decide) ?_
    refine lv_aload_n hx hb dX9_asShut_73 rfl (lv_at hl 1 rfl) ?_
    refine mf_X9_7 C K hP kr_0 dX9_asShut_74 ?_
    refine lv_iload_n hx hb dX9_asShut_77 rfl (lv_at hl 0 rfl) ?_
    refine lv_bipush (v := 8) hx hb dX9_asShut_78 (by decide) ?_
    refine lv_iadd hx hb dX9_asShut_80 ?_
    obtain ⟨g10, h⟩ := mc_gd h
    refine ma_l16 hC K hP kr_1 g10 dX9_asShut_81 ?_
    cases h
    exact mt_i hC hr hlk K hP hS dX9_asShut_82
  replace h := mc_ie h c9
  by_cases c11 : v2 = 10
  · replace h := mc_it h c11
    refine lv_tableIn (off := 76) (tgt := 83) hx hb dX9_asShut_7 (by rw [c11]; decide) (by rw [c11]; decide) (by rw [c11]; decide) (by decide) ?_
    refine lv_aload_n hx hb dX9_asShut_83 rfl (lv_at hl 1 rfl) ?_
    refine lv_iload_n hx hb dX9_asShut_84 rfl (lv_at hl 2 rfl) ?_
    obtain ⟨r12, e13, h⟩ := mc_ob_e h
    refine mg_Vi (As := [.int v1]) (rest := []) (ct_X9_pairDepth l (w := w) (I := I) (R := R) e13) C K hP hS hl.1 kr_0 (by decide) rfl rfl ml_X9_162 wy_X9_pairDepth wd_X9_pairDepth rfl rfl rfl ⟨Nat.le_of_ble_eq_true rfl, Nat.le_of_ble_eq_true rfl⟩ (Nat.le_of_ble_eq_true rfl) ⟨Nat.zero_le _, Nat.zero_le _⟩ dX9_asShut_85 (fun H locs hP hS => ?_)
    cases h
    exact mt_i hC hr hlk K hP hS dX9_asShut_88
  replace h := mc_ie h c11
  by_cases c14 : v2 = 11
  · replace h := mc_it h c14
    refine lv_tableIn (off := 82) (tgt := 89) hx hb dX9_asShut_7 (by rw [c14]; decide) (by rw [c14]; decide) (by rw [c14]; decide) (by decide) ?_
    refine lv_aload_n hx hb dX9_asShut_89 rfl (lv_at hl 1 rfl) ?_
    refine mf_X9_7 C K hP kr_0 dX9_asShut_90 ?_
    refine lv_iload_n hx hb dX9_asShut_93 rfl (lv_at hl 0 rfl) ?_
    refine lv_bipush (v := 9) hx hb dX9_asShut_94 (by decide) ?_
    refine lv_iadd hx hb dX9_asShut_96 ?_
    obtain ⟨g15, h⟩ := mc_gd h
    refine ma_l16 hC K hP kr_1 g15 dX9_asShut_97 ?_
    cases h
    exact mt_i hC hr hlk K hP hS dX9_asShut_98
  replace h := mc_ie h c14
  refine lv_tableOut (tgt := 99) hx hb dX9_asShut_7 (mc_sw (lo := 6) (hi := 11) (fun v h1 h2 => by rcases (show v = 6 ∨ v = 7 ∨ v = 8 ∨ v = 9 ∨ v = 10 ∨ v = 11 by omega) with rfl | rfl | rfl | rfl | rfl | rfl <;> first | exact ⟨6, by decide, c3⟩ | exact ⟨7, by decide, c5⟩ | exact ⟨8, by decide, c7⟩ | exact ⟨9, by decide, c9⟩ | exact ⟨10, by decide, c11⟩ | exact ⟨11, by decide, c14⟩)) (by decide) ?_
  refine lv_aload_n hx hb dX9_asShut_99 rfl (lv_at hl 1 rfl) ?_
  refine lv_iload_n hx hb dX9_asShut_100 rfl (lv_at hl 2 rfl) ?_
  obtain ⟨r16, e17, h⟩ := mc_ob_e h
  refine mg_Vi (As := [.int v1]) (rest := []) (ct_X9_difference l (w := w) (I := I) (R := R) e17) C K hP hS hl.1 kr_0 (by decide) rfl rfl ml_X9_165 wy_X9_difference wd_X9_difference rfl rfl rfl ⟨Nat.le_of_ble_eq_true rfl, Nat.le_of_ble_eq_true rfl⟩ (Nat.le_of_ble_eq_true rfl) ⟨Nat.zero_le _, Nat.zero_le _⟩ dX9_asShut_101 (fun H locs hP hS => ?_)
  refine lv_aload_n hx hb dX9_asShut_104 rfl (lv_at hl 1 rfl) ?_
  refine mf_X9_7 C K hP kr_0 dX9_asShut_105 ?_
  refine lv_bipush (v := 11) hx hb dX9_asShut_108 (by decide) ?_
  obtain ⟨g18, h⟩ := mc_gd h
  refine ma_l16 hC K hP kr_1 g18 dX9_asShut_110 ?_
  refine lv_icmp_le (tgt := 118) hx hb dX9_asShut_111 (by decide) (fun c19 => ?_) (fun c19 => ?_)
  · replace h := mc_it h c19
    refine lv_iconst (v := 0) hx hb dX9_asShut_118 (by decide) ?_
    refine mg_Si (As := [.int 0]) (rest := []) (ct_X9_flag l (w := w) (I := I) (R := R) rfl) C K hP hS hl.1 ml_X9_74 wy_X9_flag wd_X9_flag rfl rfl rfl ⟨Nat.le_of_ble_eq_true rfl, Nat.le_of_ble_eq_true rfl⟩ (Nat.le_of_ble_eq_true rfl) ⟨Nat.zero_le _, Nat.zero_le _⟩ dX9_asShut_119 (fun H locs hP hS => ?_)
    cases h
    exact mt_i hC hr hlk K hP hS dX9_asShut_122
  · replace h := mc_ie h c19
    refine lv_iconst (v := 1) hx hb dX9_asShut_114 (by decide) ?_
    refine lv_goto (tgt := 119) hx hb dX9_asShut_115 (by decide) ?_
    refine mg_Si (As := [.int 1]) (rest := []) (ct_X9_flag l (w := w) (I := I) (R := R) rfl) C K hP hS hl.1 ml_X9_74 wy_X9_flag wd_X9_flag rfl rfl rfl ⟨Nat.le_of_ble_eq_true rfl, Nat.le_of_ble_eq_true rfl⟩ (Nat.le_of_ble_eq_true rfl) ⟨Nat.zero_le _, Nat.zero_le _⟩ dX9_asShut_119 (fun H locs hP hS => ?_)
    cases h
    exact mt_i hC hr hlk K hP hS dX9_asShut_122
set_option maxHeartbeats 4000000 in
set_option maxRecDepth 100000 in
theorem ct_X9_bottle (l : Launch) {w : mc_w} {I : Nat → Nat → Int32} {R : Nat → Nat → Option Nat} {v1 : Int32} {v2 : Int32} {rz : Int32} (h : mi_X9_bottle I v1 v2 = some rz) : Met l yX9_bottle (Cond.code yX9_bottle cX9_bottle 4 (some .int) :: mc_big) ({ frames := 4, cells := 0, slots := 0, locals := 87 } : Room) (va_Pc [.ref (w.2.2.1 0), .int v1, .int v2] (mc_B mr_k 3 w I R)) (mc_Q (some (.int rz)) (mc_B mr_k 3 w I R) (mc_A 3 w)) 0 0 (mc_A 3 w) := by
  refine Met.ofW (cc := cX9_bottle) (maxL := 4) (ret := (some .int)) (by decide) rfl ?_
  intro p e s m args below meth c s₁ B hml hv
  obtain ⟨rfl, hP, K⟩ := hv
  have hown : s.vm.findClass RX9 = some m.cls := findClass_of_methodNamed B.named
  have C : CallFix p m c cX9_bottle 4 s _ mc_big RX9 := ⟨B.exec, B.bytes, hml, hown, fun w hw => atoms_spec B.pre w (List.mem_cons_of_mem _ hw)⟩
  have hx := C.1
  have hb := C.2.1
  have hC := And.intro C.1 C.2.1
  have hr := B.returns
  have hlk := B.notSynchronized
  have hS : va_S (mc_A 3 w) s.heap s.heap [] := va_S.rf
  have hl := lv_entry ([.ref (w.2.2.1 0), .int v1, .int v2]) (n := 4) (Nat.le_of_ble_eq_true rfl)
  rw [lg_entry_eq]
  generalize (lg_sl ([.ref (w.2.2.1 0), .int v1, .int v2]) ++ List.replicate (4 - (lg_sl ([.ref (w.2.2.1 0), .int v1, .int v2])).length) Slot.unset).toArray = ls at hl ⊢
  have hl : lv_has ls 4 [(0, .ref (w.2.2.1 0)), (1, .int v1), (2, .int v2)] := hl
  unfold mi_X9_bottle at h
  refine lv_aload_n hx hb dX9_bottle_0 rfl (lv_at hl 0 rfl) ?_
  refine lv_iload_n hx hb dX9_bottle_1 rfl (lv_at hl 1 rfl) ?_
  obtain ⟨r1, e2, h⟩ := mc_ob_e h
  refine mg_Vz (As := [.int v1]) (rest := []) (ct_X9_isBottle l (w := w) (I := I) (R := R) e2) C K hP hS hl.1 kr_0 (by decide) rfl rfl ml_X9_95 wy_X9_isBottle wd_X9_isBottle rfl rfl rfl ⟨Nat.le_of_ble_eq_true rfl, Nat.le_of_ble_eq_true rfl⟩ (Nat.le_of_ble_eq_true rfl) ⟨Nat.zero_le _, Nat.zero_le _⟩ dX9_bottle_2 (fun H locs hP z3 hS => ?_)
  refine lv_if_ne (tgt := 12) hx hb dX9_bottle_5 (by decide) (fun c4 => ?_) (fun c4 => ?_)
  · replace h := mc_ie h c4
    refine lv_iconst (v := 0) hx hb dX9_bottle_12 (by decide) ?_
    refine lv_iload_n hx hb dX9_bottle_13 rfl (lv_at hl 1 rfl) ?_
    refine mg_Si (As := [.int 0, .int v1]) (rest := []) (ct_X9_bottleAt l (w := w) (I := I) (R := R) rfl) C K hP hS hl.1 ml_X9_34 wy_X9_bottleAt wd_X9_bottleAt rfl rfl rfl ⟨Nat.le_of_ble_eq_true rfl, Nat.le_of_ble_eq_true rfl⟩ (Nat.le_of_ble_eq_true rfl) ⟨Nat.zero_le _, Nat.zero_le _⟩ dX9_bottle_14 (fun H locs hP hS => ?_)
    obtain ⟨x6, ex6, h⟩ := mc_bn_e h
    refine mv_top ex6 ?_
    refine lv_istore_n (i := 3) (lv' := [(3, .int x6), (0, .ref (w.2.2.1 0)), (1, .int v1), (2, .int v2)]) hx hb dX9_bottle_17 rfl hl (by decide) rfl (fun ls hl => ?_)
    refine lv_iload_n hx hb dX9_bottle_18 rfl (lv_at hl 3 rfl) ?_
    by_cases c7 : v2 = 0
    · replace h := mc_it h c7
      refine lv_tableIn (off := 69) (tgt := 88) hx hb dX9_bottle_19 (by rw [c7]; decide) (by rw [c7]; decide) (by rw [c7]; decide) (by decide) ?_
      refine lv_aload_n hx hb dX9_bottle_88 rfl (lv_at hl 1 rfl) ?_
      refine mf_X9_7 C K hP kr_0 dX9_bottle_89 ?_
      refine lv_iload_n hx hb dX9_bottle_92 rfl (lv_at hl 0 rfl) ?_
      obtain ⟨g8, h⟩ := mc_gd h
      refine ma_l16 hC K hP kr_1 g8 dX9_bottle_93 ?_
      cases h
      exact mt_i hC hr hlk K hP hS dX9_bottle_94
    replace h := mc_ie h c7
    by_cases c9 : v2 = 1
    · replace h := mc_it h c9
      refine lv_tableIn (off := 76) (tgt := 95) hx hb dX9_bottle_19 (by rw [c9]; decide) (by rw [c9]; decide) (by rw [c9]; decide) (by decide) ?_
      refine lv_aload_n hx hb dX9_bottle_95 rfl (lv_at hl 1 rfl) ?_
      refine lv_iconst (v := 0) hx hb dX9_bottle_96 (by decide) ?_
      refine lv_iload_n hx hb dX9_bottle_97 rfl (lv_at hl 2 rfl) ?_
      obtain ⟨r10, e11, h⟩ := mc_ob_e h
      refine mg_Vi (As := [.int 0, .int v1]) (rest := []) (ct_X9_metre l (w := w) (I := I) (R := R) e11) C K hP hS hl.1 kr_0 (by decide) rfl rfl ml_X9_42 wy_X9_metre wd_X9_metre rfl rfl rfl ⟨Nat.le_of_ble_eq_true rfl, Nat.le_of_ble_eq_true rfl⟩ (Nat.le_of_ble_eq_true rfl) ⟨Nat.zero_le _, Nat.zero_le _⟩ dX9_bottle_98 (fun H locs hP hS => ?_)
      cases h
      exact mt_i hC hr hlk K hP hS dX9_bottle_101
    replace h := mc_ie h c9
    by_cases c12 : v2 = 2
    · replace h := mc_it h c12
      refine lv_tableIn (off := 83) (tgt := 102) hx hb dX9_bottle_19 (by rw [c12]; decide) (by rw [c12]; decide) (by rw [c12]; decide) (by decide) ?_
      refine lv_aload_n hx hb dX9_bottle_102 rfl (lv_at hl 1 rfl) ?_
      refine lv_iconst (v := 0) hx hb dX9_bottle_103 (by decide) ?_
      refine lv_iload_n hx hb dX9_bottle_104 rfl (lv_at hl 2 rfl) ?_
      obtain ⟨r13, e14, h⟩ := mc_ob_e h
      refine mg_Vi (As := [.int 0, .int v1]) (rest := []) (ct_X9_metre l (w := w) (I := I) (R := R) e14) C K hP hS hl.1 kr_0 (by decide) rfl rfl ml_X9_42 wy_X9_metre wd_X9_metre rfl rfl rfl ⟨Nat.le_of_ble_eq_true rfl, Nat.le_of_ble_eq_true rfl⟩ (Nat.le_of_ble_eq_true rfl) ⟨Nat.zero_le _, Nat.zero_le _⟩ dX9_bottle_105 (fun H locs hP hS => ?_)
      refine lv_aload_n hx hb dX9_bottle_108 rfl (lv_at hl 1 rfl) ?_
      refine lv_iconst (v := 0) hx hb dX9_bottle_109 (by decide) ?_
      obtain ⟨r15, e16, h⟩ := mc_ob_e h
      refine mg_Vi (As := [.int 0]) (rest := [.int r13]) (ct_X9_counted l (w := w) (I := I) (R := R) e16) C K hP hS hl.1 kr_0 (by decide) rfl rfl ml_X9_45 wy_X9_counted wd_X9_counted rfl rfl rfl ⟨Nat.le_of_ble_eq_true rfl, Nat.le_of_ble_eq_true rfl⟩ (Nat.le_of_ble_eq_true rfl) ⟨Nat.zero_le _, Nat.zero_le _⟩ dX9_bottle_110 (fun H locs hP hS => ?_)
      refine mg_Si (As := [.int r13, .int r15]) (rest := []) (ct_X9_deep l (w := w) (I := I) (R := R) rfl) C K hP hS hl.1 ml_X9_48 wy_X9_deep wd_X9_deep rfl rfl rfl ⟨Nat.le_of_ble_eq_true rfl, Nat.le_of_ble_eq_true rfl⟩ (Nat.le_of_ble_eq_true rfl) ⟨Nat.zero_le _, Nat.zero_le _⟩ dX9_bottle_113 (fun H locs hP hS => ?_)
      cases h
      exact mt_i hC hr hlk K hP hS dX9_bottle_116
    replace h := mc_ie h c12
    by_cases c18 : v2 = 3
    · replace h := mc_it h c18
      refine lv_tableIn (off := 98) (tgt := 117) hx hb dX9_bottle_19 (by rw [c18]; decide) (by rw [c18]; decide) (by rw [c18]; decide) (by decide) ?_
      refine lv_aload_n hx hb dX9_bottle_117 rfl (lv_at hl 1 rfl) ?_
      refine mf_X9_7 C K hP kr_0 dX9_bottle_118 ?_
      refine lv_iload_n hx hb dX9_bottle_121 rfl (lv_at hl 0 rfl) ?_
      refine lv_iconst (v := 1) hx hb dX9_bottle_122 (by decide) ?_
      refine lv_iadd hx hb dX9_bottle_123 ?_
      obtain ⟨g19, h⟩ := mc_gd h
      refine ma_l16 hC K hP kr_1 g19 dX9_bottle_124 ?_
      cases h
      exact mt_i hC hr hlk K hP hS dX9_bottle_125
    replace h := mc_ie h c18
    by_cases c20 : v2 = 4
    · replace h := mc_it h c20
      refine lv_tableIn (off := 107) (tgt := 126) hx hb dX9_bottle_19 (by rw [c20]; decide) (by rw [c20]; decide) (by rw [c20]; decide) (by decide) ?_
      refine lv_aload_n hx hb dX9_bottle_126 rfl (lv_at hl 1 rfl) ?_
      refine mf_X9_7 C K hP kr_0 dX9_bottle_127 ?_
      refine lv_iload_n hx hb dX9_bottle_130 rfl (lv_at hl 0 rfl) ?_
      refine lv_iconst (v := 2) hx hb dX9_bottle_131 (by decide) ?_
      refine lv_iadd hx hb dX9_bottle_132 ?_
      obtain ⟨g21, h⟩ := mc_gd h
      refine ma_l16 hC K hP kr_1 g21 dX9_bottle_133 ?_
      cases h
      exact mt_i hC hr hlk K hP hS dX9_bottle_134
    replace h := mc_ie h c20
    by_cases c22 : v2 = 5
    · replace h := mc_it h c22
      refine lv_tableIn (off := 116) (tgt := 135) hx hb dX9_bottle_19 (by rw [c22]; decide) (by rw [c22]; decide) (by rw [c22]; decide) (by decide) ?_
      refine lv_aload_n hx hb dX9_bottle_135 rfl (lv_at hl 1 rfl) ?_
      refine mf_X9_7 C K hP kr_0 dX9_bottle_136 ?_
      refine lv_iload_n hx hb dX9_bottle_139 rfl (lv_at hl 0 rfl) ?_
      refine lv_iconst (v := 3) hx hb dX9_bottle_140 (by decide) ?_
      refine lv_iadd hx hb dX9_bottle_141 ?_
      obtain ⟨g23, h⟩ := mc_gd h
      refine ma_l16 hC K hP kr_1 g23 dX9_bottle_142 ?_
      cases h
      exact mt_i hC hr hlk K hP hS dX9_bottle_143
    replace h := mc_ie h c22
    by_cases c24 : v2 = 6
    · replace h := mc_it h c24
      refine lv_tableIn (off := 134) (tgt := 153) hx hb dX9_bottle_19 (by rw [c24]; decide) (by rw [c24]; decide) (by rw [c24]; decide) (by decide) ?_
      refine lv_iload_n hx hb dX9_bottle_153 rfl (lv_at hl 3 rfl) ?_
      refine lv_bipush (v := 6) hx hb dX9_bottle_154 (by decide) ?_
      refine lv_bipush (v := 12) hx hb dX9_bottle_156 (by decide) ?_
      refine mg_Sz (As := [.int v2, .int 6, .int 12]) (rest := []) (ct_X9_in l (w := w) (I := I) (R := R) rfl) C K hP hS hl.1 ml_X9_81 wy_X9_in wd_X9_in rfl rfl rfl ⟨Nat.le_of_ble_eq_true rfl, Nat.le_of_ble_eq_true rfl⟩ (Nat.le_of_ble_eq_true rfl) ⟨Nat.zero_le _, Nat.zero_le _⟩ dX9_bottle_158 (fun H locs hP z26 hS => ?_)
      refine lv_if_ne (tgt := 170) hx hb dX9_bottle_161 (by decide) (fun c27 => ?_) (fun c27 => ?_)
      · replace h := mc_ie h c27
        refine lv_aload_n hx hb dX9_bottle_170 rfl (lv_at hl 1 rfl) ?_
        refine lv_iload_n hx hb dX9_bottle_171 rfl (lv_at hl 2 rfl) ?_
        obtain ⟨r28, e29, h⟩ := mc_ob_e h
        refine mg_Vz (As := [.int v1]) (rest := []) (ct_X9_isShut l (w := w) (I := I) (R := R) e29) C K hP hS hl.1 kr_0 (by decide) rfl rfl ml_X9_168 wy_X9_isShut wd_X9_isShut rfl rfl rfl ⟨Nat.le_of_ble_eq_true rfl, Nat.le_of_ble_eq_true rfl⟩ (Nat.le_of_ble_eq_true rfl) ⟨Nat.zero_le _, Nat.zero_le _⟩ dX9_bottle_172 (fun H locs hP z30 hS => ?_)
        refine lv_if_eq (tgt := 187) hx hb dX9_bottle_175 (by decide) (fun c31 => ?_) (fun c31 => ?_)
        · replace h := mc_it h c31
          refine lv_sipush (v := (-1005)) hx hb dX9_bottle_187 (by decide) ?_
          cases h
          exact mt_i hC hr hlk K hP hS dX9_bottle_190
        · replace h := mc_ie h c31
          refine lv_aload_n hx hb dX9_bottle_178 rfl (lv_at hl 1 rfl) ?_
          refine lv_iload_n hx hb dX9_bottle_179 rfl (lv_at hl 2 rfl) ?_
          refine lv_iload_n hx hb dX9_bottle_180 rfl (lv_at hl 3 rfl) ?_
          obtain ⟨r32, e33, h⟩ := mc_ob_e h
          refine mg_Vi (As := [.int v1, .int v2]) (rest := []) (ct_X9_asShut l (w := w) (I := I) (R := R) e33) C K hP hS hl.1 kr_0 (by decide) rfl rfl ml_X9_171 wy_X9_asShut wd_X9_asShut rfl rfl rfl ⟨Nat.le_of_ble_eq_true rfl, Nat.le_of_ble_eq_true rfl⟩ (Nat.le_of_ble_eq_true rfl) ⟨Nat.zero_le _, Nat.zero_le _⟩ dX9_bottle_181 (fun H locs hP hS => ?_)
          refine lv_goto (tgt := 190) hx hb dX9_bottle_184 (by decide) ?_
          cases h
          exact mt_i hC hr hlk K hP hS dX9_bottle_190
      · replace h := mc_it h c27
        refine lv_sipush (v := (-1002)) hx hb dX9_bottle_164 (by decide) ?_
        refine lv_goto (tgt := 190) hx hb dX9_bottle_167 (by decide) ?_
        cases h
        exact mt_i hC hr hlk K hP hS dX9_bottle_190
    replace h := mc_ie h c24
    by_cases c34 : v2 = 7
    · replace h := mc_it h c34
      refine lv_tableIn (off := 134) (tgt := 153) hx hb dX9_bottle_19 (by rw [c34]; decide) (by rw [c34]; decide) (by rw [c34]; decide) (by decide) ?_
      refine lv_iload_n hx hb dX9_bottle_153 rfl (lv_at hl 3 rfl) ?_
      refine lv_bipush (v := 6) hx hb dX9_bottle_154 (by decide) ?_
      refine lv_bipush (v := 12) hx hb dX9_bottle_156 (by decide) ?_
      refine mg_Sz (As := [.int v2, .int 6, .int 12]) (rest := []) (ct_X9_in l (w := w) (I := I) (R := R) rfl) C K hP hS hl.1 ml_X9_81 wy_X9_in wd_X9_in rfl rfl rfl ⟨Nat.le_of_ble_eq_true rfl, Nat.le_of_ble_eq_true rfl⟩ (Nat.le_of_ble_eq_true rfl) ⟨Nat.zero_le _, Nat.zero_le _⟩ dX9_bottle_158 (fun H locs hP z36 hS => ?_)
      refine lv_if_ne (tgt := 170) hx hb dX9_bottle_161 (by decide) (fun c37 => ?_) (fun c37 => ?_)
      · replace h := mc_ie h c37
        refine lv_aload_n hx hb dX9_bottle_170 rfl (lv_at hl 1 rfl) ?_
        refine lv_iload_n hx hb dX9_bottle_171 rfl (lv_at hl 2 rfl) ?_
        obtain ⟨r38, e39, h⟩ := mc_ob_e h
        refine mg_Vz (As := [.int v1]) (rest := []) (ct_X9_isShut l (w := w) (I := I) (R := R) e39) C K hP hS hl.1 kr_0 (by decide) rfl rfl ml_X9_168 wy_X9_isShut wd_X9_isShut rfl rfl rfl ⟨Nat.le_of_ble_eq_true rfl, Nat.le_of_ble_eq_true rfl⟩ (Nat.le_of_ble_eq_true rfl) ⟨Nat.zero_le _, Nat.zero_le _⟩ dX9_bottle_172 (fun H locs hP z40 hS => ?_)
        refine lv_if_eq (tgt := 187) hx hb dX9_bottle_175 (by decide) (fun c41 => ?_) (fun c41 => ?_)
        · replace h := mc_it h c41
          refine lv_sipush (v := (-1005)) hx hb dX9_bottle_187 (by decide) ?_
          cases h
          exact mt_i hC hr hlk K hP hS dX9_bottle_190
        · replace h := mc_ie h c41
          refine lv_aload_n hx hb dX9_bottle_178 rfl (lv_at hl 1 rfl) ?_
          refine lv_iload_n hx hb dX9_bottle_179 rfl (lv_at hl 2 rfl) ?_
          refine lv_iload_n hx hb dX9_bottle_180 rfl (lv_at hl 3 rfl) ?_
          obtain ⟨r42, e43, h⟩ := mc_ob_e h
          refine mg_Vi (As := [.int v1, .int v2]) (rest := []) (ct_X9_asShut l (w := w) (I := I) (R := R) e43) C K hP hS hl.1 kr_0 (by decide) rfl rfl ml_X9_171 wy_X9_asShut wd_X9_asShut rfl rfl rfl ⟨Nat.le_of_ble_eq_true rfl, Nat.le_of_ble_eq_true rfl⟩ (Nat.le_of_ble_eq_true rfl) ⟨Nat.zero_le _, Nat.zero_le _⟩ dX9_bottle_181 (fun H locs hP hS => ?_)
          refine lv_goto (tgt := 190) hx hb dX9_bottle_184 (by decide) ?_
          cases h
          exact mt_i hC hr hlk K hP hS dX9_bottle_190
      · replace h := mc_it h c37
        refine lv_sipush (v := (-1002)) hx hb dX9_bottle_164 (by decide) ?_
        refine lv_goto (tgt := 190) hx hb dX9_bottle_167 (by decide) ?_
        cases h
        exact mt_i hC hr hlk K hP hS dX9_bottle_190
    replace h := mc_ie h c34
    by_cases c44 : v2 = 8
    · replace h := mc_it h c44
      refine lv_tableIn (off := 134) (tgt := 153) hx hb dX9_bottle_19 (by rw [c44]; decide) (by rw [c44]; decide) (by rw [c44]; decide) (by decide) ?_
      refine lv_iload_n hx hb dX9_bottle_153 rfl (lv_at hl 3 rfl) ?_
      refine lv_bipush (v := 6) hx hb dX9_bottle_154 (by decide) ?_
      refine lv_bipush (v := 12) hx hb dX9_bottle_156 (by decide) ?_
      refine mg_Sz (As := [.int v2, .int 6, .int 12]) (rest := []) (ct_X9_in l (w := w) (I := I) (R := R) rfl) C K hP hS hl.1 ml_X9_81 wy_X9_in wd_X9_in rfl rfl rfl ⟨Nat.le_of_ble_eq_true rfl, Nat.le_of_ble_eq_true rfl⟩ (Nat.le_of_ble_eq_true rfl) ⟨Nat.zero_le _, Nat.zero_le _⟩ dX9_bottle_158 (fun H locs hP z46 hS => ?_)
      refine lv_if_ne (tgt := 170) hx hb dX9_bottle_161 (by decide) (fun c47 => ?_) (fun c47 => ?_)
      · replace h := mc_ie h c47
        refine lv_aload_n hx hb dX9_bottle_170 rfl (lv_at hl 1 rfl) ?_
        refine lv_iload_n hx hb dX9_bottle_171 rfl (lv_at hl 2 rfl) ?_
        obtain ⟨r48, e49, h⟩ := mc_ob_e h
        refine mg_Vz (As := [.int v1]) (rest := []) (ct_X9_isShut l (w := w) (I := I) (R := R) e49) C K hP hS hl.1 kr_0 (by decide) rfl rfl ml_X9_168 wy_X9_isShut wd_X9_isShut rfl rfl rfl ⟨Nat.le_of_ble_eq_true rfl, Nat.le_of_ble_eq_true rfl⟩ (Nat.le_of_ble_eq_true rfl) ⟨Nat.zero_le _, Nat.zero_le _⟩ dX9_bottle_172 (fun H locs hP z50 hS => ?_)
        refine lv_if_eq (tgt := 187) hx hb dX9_bottle_175 (by decide) (fun c51 => ?_) (fun c51 => ?_)
        · replace h := mc_it h c51
          refine lv_sipush (v := (-1005)) hx hb dX9_bottle_187 (by decide) ?_
          cases h
          exact mt_i hC hr hlk K hP hS dX9_bottle_190
        · replace h := mc_ie h c51
          refine lv_aload_n hx hb dX9_bottle_178 rfl (lv_at hl 1 rfl) ?_
          refine lv_iload_n hx hb dX9_bottle_179 rfl (lv_at hl 2 rfl) ?_
          refine lv_iload_n hx hb dX9_bottle_180 rfl (lv_at hl 3 rfl) ?_
          obtain ⟨r52, e53, h⟩ := mc_ob_e h
          refine mg_Vi (As := [.int v1, .int v2]) (rest := []) (ct_X9_asShut l (w := w) (I := I) (R := R) e53) C K hP hS hl.1 kr_0 (by decide) rfl rfl ml_X9_171 wy_X9_asShut wd_X9_asShut rfl rfl rfl ⟨Nat.le_of_ble_eq_true rfl, Nat.le_of_ble_eq_true rfl⟩ (Nat.le_of_ble_eq_true rfl) ⟨Nat.zero_le _, Nat.zero_le _⟩ dX9_bottle_181 (fun H locs hP hS => ?_)
          refine lv_goto (tgt := 190) hx hb dX9_bottle_184 (by decide) ?_
          cases h
          exact mt_i hC hr hlk K hP hS dX9_bottle_190
      · replace h := mc_it h c47
        refine lv_sipush (v := (-1002)) hx hb dX9_bottle_164 (by decide) ?_
        refine lv_goto (tgt := 190) hx hb dX9_bottle_167 (by decide) ?_
        cases h
        exact mt_i hC hr hlk K hP hS dX9_bottle_190
    replace h := mc_ie h c44
    by_cases c54 : v2 = 9
    · replace h := mc_it h c54
      refine lv_tableIn (off := 134) (tgt := 153) hx hb dX9_bottle_19 (by rw [c54]; decide) (by rw [c54]; decide) (by rw [c54]; decide) (by decide) ?_
      refine lv_iload_n hx hb dX9_bottle_153 rfl (lv_at hl 3 rfl) ?_
      refine lv_bipush (v := 6) hx hb dX9_bottle_154 (by decide) ?_
      refine lv_bipush (v := 12) hx hb dX9_bottle_156 (by decide) ?_
      refine mg_Sz (As := [.int v2, .int 6, .int 12]) (rest := []) (ct_X9_in l (w := w) (I := I) (R := R) rfl) C K hP hS hl.1 ml_X9_81 wy_X9_in wd_X9_in rfl rfl rfl ⟨Nat.le_of_ble_eq_true rfl, Nat.le_of_ble_eq_true rfl⟩ (Nat.le_of_ble_eq_true rfl) ⟨Nat.zero_le _, Nat.zero_le _⟩ dX9_bottle_158 (fun H locs hP z56 hS => ?_)
      refine lv_if_ne (tgt := 170) hx hb dX9_bottle_161 (by decide) (fun c57 => ?_) (fun c57 => ?_)
      · replace h := mc_ie h c57
        refine lv_aload_n hx hb dX9_bottle_170 rfl (lv_at hl 1 rfl) ?_
        refine lv_iload_n hx hb dX9_bottle_171 rfl (lv_at hl 2 rfl) ?_
        obtain ⟨r58, e59, h⟩ := mc_ob_e h
        refine mg_Vz (As := [.int v1]) (rest := []) (ct_X9_isShut l (w := w) (I := I) (R := R) e59) C K hP hS hl.1 kr_0 (by decide) rfl rfl ml_X9_168 wy_X9_isShut wd_X9_isShut rfl rfl rfl ⟨Nat.le_of_ble_eq_true rfl, Nat.le_of_ble_eq_true rfl⟩ (Nat.le_of_ble_eq_true rfl) ⟨Nat.zero_le _, Nat.zero_le _⟩ dX9_bottle_172 (fun H locs hP z60 hS => ?_)
        refine lv_if_eq (tgt := 187) hx hb dX9_bottle_175 (by decide) (fun c61 => ?_) (fun c61 => ?_)
        · replace h := mc_it h c61
          refine lv_sipush (v := (-1005)) hx hb dX9_bottle_187 (by decide) ?_
          cases h
          exact mt_i hC hr hlk K hP hS dX9_bottle_190
        · replace h := mc_ie h c61
          refine lv_aload_n hx hb dX9_bottle_178 rfl (lv_at hl 1 rfl) ?_
          refine lv_iload_n hx hb dX9_bottle_179 rfl (lv_at hl 2 rfl) ?_
          refine lv_iload_n hx hb dX9_bottle_180 rfl (lv_at hl 3 rfl) ?_
          obtain ⟨r62, e63, h⟩ := mc_ob_e h
          refine mg_Vi (As := [.int v1, .int v2]) (rest := []) (ct_X9_asShut l (w := w) (I := I) (R := R) e63) C K hP hS hl.1 kr_0 (by decide) rfl rfl ml_X9_171 wy_X9_asShut wd_X9_asShut rfl rfl rfl ⟨Nat.le_of_ble_eq_true rfl, Nat.le_of_ble_eq_true rfl⟩ (Nat.le_of_ble_eq_true rfl) ⟨Nat.zero_le _, Nat.zero_le _⟩ dX9_bottle_181 (fun H locs hP hS => ?_)
          refine lv_goto (tgt := 190) hx hb dX9_bottle_184 (by decide) ?_
          cases h
          exact mt_i hC hr hlk K hP hS dX9_bottle_190
      · replace h := mc_it h c57
        refine lv_sipush (v := (-1002)) hx hb dX9_bottle_164 (by decide) ?_
        refine lv_goto (tgt := 190) hx hb dX9_bottle_167 (by decide) ?_
        cases h
        exact mt_i hC hr hlk K hP hS dX9_bottle_190
    replace h := mc_ie h c54
    by_cases c64 : v2 = 10
    · replace h := mc_it h c64
      refine lv_tableIn (off := 134) (tgt := 153) hx hb dX9_bottle_19 (by rw [c64]; decide) (by rw [c64]; decide) (by rw [c64]; decide) (by decide) ?_
      refine lv_iload_n hx hb dX9_bottle_153 rfl (lv_at hl 3 rfl) ?_
      refine lv_bipush (v := 6) hx hb dX9_bottle_154 (by decide) ?_
      refine lv_bipush (v := 12) hx hb dX9_bottle_156 (by decide) ?_
      refine mg_Sz (As := [.int v2, .int 6, .int 12]) (rest := []) (ct_X9_in l (w := w) (I := I) (R := R) rfl) C K hP hS hl.1 ml_X9_81 wy_X9_in wd_X9_in rfl rfl rfl ⟨Nat.le_of_ble_eq_true rfl, Nat.le_of_ble_eq_true rfl⟩ (Nat.le_of_ble_eq_true rfl) ⟨Nat.zero_le _, Nat.zero_le _⟩ dX9_bottle_158 (fun H locs hP z66 hS => ?_)
      refine lv_if_ne (tgt := 170) hx hb dX9_bottle_161 (by decide) (fun c67 => ?_) (fun c67 => ?_)
      · replace h := mc_ie h c67
        refine lv_aload_n hx hb dX9_bottle_170 rfl (lv_at hl 1 rfl) ?_
        refine lv_iload_n hx hb dX9_bottle_171 rfl (lv_at hl 2 rfl) ?_
        obtain ⟨r68, e69, h⟩ := mc_ob_e h
        refine mg_Vz (As := [.int v1]) (rest := []) (ct_X9_isShut l (w := w) (I := I) (R := R) e69) C K hP hS hl.1 kr_0 (by decide) rfl rfl ml_X9_168 wy_X9_isShut wd_X9_isShut rfl rfl rfl ⟨Nat.le_of_ble_eq_true rfl, Nat.le_of_ble_eq_true rfl⟩ (Nat.le_of_ble_eq_true rfl) ⟨Nat.zero_le _, Nat.zero_le _⟩ dX9_bottle_172 (fun H locs hP z70 hS => ?_)
        refine lv_if_eq (tgt := 187) hx hb dX9_bottle_175 (by decide) (fun c71 => ?_) (fun c71 => ?_)
        · replace h := mc_it h c71
          refine lv_sipush (v := (-1005)) hx hb dX9_bottle_187 (by decide) ?_
          cases h
          exact mt_i hC hr hlk K hP hS dX9_bottle_190
        · replace h := mc_ie h c71
          refine lv_aload_n hx hb dX9_bottle_178 rfl (lv_at hl 1 rfl) ?_
          refine lv_iload_n hx hb dX9_bottle_179 rfl (lv_at hl 2 rfl) ?_
          refine lv_iload_n hx hb dX9_bottle_180 rfl (lv_at hl 3 rfl) ?_
          obtain ⟨r72, e73, h⟩ := mc_ob_e h
          refine mg_Vi (As := [.int v1, .int v2]) (rest := []) (ct_X9_asShut l (w := w) (I := I) (R := R) e73) C K hP hS hl.1 kr_0 (by decide) rfl rfl ml_X9_171 wy_X9_asShut wd_X9_asShut rfl rfl rfl ⟨Nat.le_of_ble_eq_true rfl, Nat.le_of_ble_eq_true rfl⟩ (Nat.le_of_ble_eq_true rfl) ⟨Nat.zero_le _, Nat.zero_le _⟩ dX9_bottle_181 (fun H locs hP hS => ?_)
          refine lv_goto (tgt := 190) hx hb dX9_bottle_184 (by decide) ?_
          cases h
          exact mt_i hC hr hlk K hP hS dX9_bottle_190
      · replace h := mc_it h c67
        refine lv_sipush (v := (-1002)) hx hb dX9_bottle_164 (by decide) ?_
        refine lv_goto (tgt := 190) hx hb dX9_bottle_167 (by decide) ?_
        cases h
        exact mt_i hC hr hlk K hP hS dX9_bottle_190
    replace h := mc_ie h c64
    by_cases c74 : v2 = 11
    · replace h := mc_it h c74
      refine lv_tableIn (off := 134) (tgt := 153) hx hb dX9_bottle_19 (by rw [c74]; decide) (by rw [c74]; decide) (by rw [c74]; decide) (by decide) ?_
      refine lv_iload_n hx hb dX9_bottle_153 rfl (lv_at hl 3 rfl) ?_
      refine lv_bipush (v := 6) hx hb dX9_bottle_154 (by decide) ?_
      refine lv_bipush (v := 12) hx hb dX9_bottle_156 (by decide) ?_
      refine mg_Sz (As := [.int v2, .int 6, .int 12]) (rest := []) (ct_X9_in l (w := w) (I := I) (R := R) rfl) C K hP hS hl.1 ml_X9_81 wy_X9_in wd_X9_in rfl rfl rfl ⟨Nat.le_of_ble_eq_true rfl, Nat.le_of_ble_eq_true rfl⟩ (Nat.le_of_ble_eq_true rfl) ⟨Nat.zero_le _, Nat.zero_le _⟩ dX9_bottle_158 (fun H locs hP z76 hS => ?_)
      refine lv_if_ne (tgt := 170) hx hb dX9_bottle_161 (by decide) (fun c77 => ?_) (fun c77 => ?_)
      · replace h := mc_ie h c77
        refine lv_aload_n hx hb dX9_bottle_170 rfl (lv_at hl 1 rfl) ?_
        refine lv_iload_n hx hb dX9_bottle_171 rfl (lv_at hl 2 rfl) ?_
        obtain ⟨r78, e79, h⟩ := mc_ob_e h
        refine mg_Vz (As := [.int v1]) (rest := []) (ct_X9_isShut l (w := w) (I := I) (R := R) e79) C K hP hS hl.1 kr_0 (by decide) rfl rfl ml_X9_168 wy_X9_isShut wd_X9_isShut rfl rfl rfl ⟨Nat.le_of_ble_eq_true rfl, Nat.le_of_ble_eq_true rfl⟩ (Nat.le_of_ble_eq_true rfl) ⟨Nat.zero_le _, Nat.zero_le _⟩ dX9_bottle_172 (fun H locs hP z80 hS => ?_)
        refine lv_if_eq (tgt := 187) hx hb dX9_bottle_175 (by decide) (fun c81 => ?_) (fun c81 => ?_)
        · replace h := mc_it h c81
          refine lv_sipush (v := (-1005)) hx hb dX9_bottle_187 (by decide) ?_
          cases h
          exact mt_i hC hr hlk K hP hS dX9_bottle_190
        · replace h := mc_ie h c81
          refine lv_aload_n hx hb dX9_bottle_178 rfl (lv_at hl 1 rfl) ?_
          refine lv_iload_n hx hb dX9_bottle_179 rfl (lv_at hl 2 rfl) ?_
          refine lv_iload_n hx hb dX9_bottle_180 rfl (lv_at hl 3 rfl) ?_
          obtain ⟨r82, e83, h⟩ := mc_ob_e h
          refine mg_Vi (As := [.int v1, .int v2]) (rest := []) (ct_X9_asShut l (w := w) (I := I) (R := R) e83) C K hP hS hl.1 kr_0 (by decide) rfl rfl ml_X9_171 wy_X9_asShut wd_X9_asShut rfl rfl rfl ⟨Nat.le_of_ble_eq_true rfl, Nat.le_of_ble_eq_true rfl⟩ (Nat.le_of_ble_eq_true rfl) ⟨Nat.zero_le _, Nat.zero_le _⟩ dX9_bottle_181 (fun H locs hP hS => ?_)
          refine lv_goto (tgt := 190) hx hb dX9_bottle_184 (by decide) ?_
          cases h
          exact mt_i hC hr hlk K hP hS dX9_bottle_190
      · replace h := mc_it h c77
        refine lv_sipush (v := (-1002)) hx hb dX9_bottle_164 (by decide) ?_
        refine lv_goto (tgt := 190) hx hb dX9_bottle_167 (by decide) ?_
        cases h
        exact mt_i hC hr hlk K hP hS dX9_bottle_190
    replace h := mc_ie h c74
    by_cases c84 : v2 = 12
    · replace h := mc_it h c84
      refine lv_tableIn (off := 134) (tgt := 153) hx hb dX9_bottle_19 (by rw [c84]; decide) (by rw [c84]; decide) (by rw [c84]; decide) (by decide) ?_
      refine lv_iload_n hx hb dX9_bottle_153 rfl (lv_at hl 3 rfl) ?_
      refine lv_bipush (v := 6) hx hb dX9_bottle_154 (by decide) ?_
      refine lv_bipush (v := 12) hx hb dX9_bottle_156 (by decide) ?_
      refine mg_Sz (As := [.int v2, .int 6, .int 12]) (rest := []) (ct_X9_in l (w := w) (I := I) (R := R) rfl) C K hP hS hl.1 ml_X9_81 wy_X9_in wd_X9_in rfl rfl rfl ⟨Nat.le_of_ble_eq_true rfl, Nat.le_of_ble_eq_true rfl⟩ (Nat.le_of_ble_eq_true rfl) ⟨Nat.zero_le _, Nat.zero_le _⟩ dX9_bottle_158 (fun H locs hP z86 hS => ?_)
      refine lv_if_ne (tgt := 170) hx hb dX9_bottle_161 (by decide) (fun c87 => ?_) (fun c87 => ?_)
      · replace h := mc_ie h c87
        refine lv_aload_n hx hb dX9_bottle_170 rfl (lv_at hl 1 rfl) ?_
        refine lv_iload_n hx hb dX9_bottle_171 rfl (lv_at hl 2 rfl) ?_
        obtain ⟨r88, e89, h⟩ := mc_ob_e h
        refine mg_Vz (As := [.int v1]) (rest := []) (ct_X9_isShut l (w := w) (I := I) (R := R) e89) C K hP hS hl.1 kr_0 (by decide) rfl rfl ml_X9_168 wy_X9_isShut wd_X9_isShut rfl rfl rfl ⟨Nat.le_of_ble_eq_true rfl, Nat.le_of_ble_eq_true rfl⟩ (Nat.le_of_ble_eq_true rfl) ⟨Nat.zero_le _, Nat.zero_le _⟩ dX9_bottle_172 (fun H locs hP z90 hS => ?_)
        refine lv_if_eq (tgt := 187) hx hb dX9_bottle_175 (by decide) (fun c91 => ?_) (fun c91 => ?_)
        · replace h := mc_it h c91
          refine lv_sipush (v := (-1005)) hx hb dX9_bottle_187 (by decide) ?_
          cases h
          exact mt_i hC hr hlk K hP hS dX9_bottle_190
        · replace h := mc_ie h c91
          refine lv_aload_n hx hb dX9_bottle_178 rfl (lv_at hl 1 rfl) ?_
          refine lv_iload_n hx hb dX9_bottle_179 rfl (lv_at hl 2 rfl) ?_
          refine lv_iload_n hx hb dX9_bottle_180 rfl (lv_at hl 3 rfl) ?_
          obtain ⟨r92, e93, h⟩ := mc_ob_e h
          refine mg_Vi (As := [.int v1, .int v2]) (rest := []) (ct_X9_asShut l (w := w) (I := I) (R := R) e93) C K hP hS hl.1 kr_0 (by decide) rfl rfl ml_X9_171 wy_X9_asShut wd_X9_asShut rfl rfl rfl ⟨Nat.le_of_ble_eq_true rfl, Nat.le_of_ble_eq_true rfl⟩ (Nat.le_of_ble_eq_true rfl) ⟨Nat.zero_le _, Nat.zero_le _⟩ dX9_bottle_181 (fun H locs hP hS => ?_)
          refine lv_goto (tgt := 190) hx hb dX9_bottle_184 (by decide) ?_
          cases h
          exact mt_i hC hr hlk K hP hS dX9_bottle_190
      · replace h := mc_it h c87
        refine lv_sipush (v := (-1002)) hx hb dX9_bottle_164 (by decide) ?_
        refine lv_goto (tgt := 190) hx hb dX9_bottle_167 (by decide) ?_
        cases h
        exact mt_i hC hr hlk K hP hS dX9_bottle_190
    replace h := mc_ie h c84
    by_cases c94 : v2 = 13
    · replace h := mc_it h c94
      refine lv_tableIn (off := 125) (tgt := 144) hx hb dX9_bottle_19 (by rw [c94]; decide) (by rw [c94]; decide) (by rw [c94]; decide) (by decide) ?_
      refine lv_aload_n hx hb dX9_bottle_144 rfl (lv_at hl 1 rfl) ?_
      refine mf_X9_7 C K hP kr_0 dX9_bottle_145 ?_
      refine lv_iload_n hx hb dX9_bottle_148 rfl (lv_at hl 0 rfl) ?_
      refine lv_iconst (v := 4) hx hb dX9_bottle_149 (by decide) ?_
      refine lv_iadd hx hb dX9_bottle_150 ?_
      obtain ⟨g95, h⟩ := mc_gd h
      refine ma_l16 hC K hP kr_1 g95 dX9_bottle_151 ?_
      cases h
      exact mt_i hC hr hlk K hP hS dX9_bottle_152
    replace h := mc_ie h c94
    refine lv_tableOut (tgt := 153) hx hb dX9_bottle_19 (mc_sw (lo := 0) (hi := 13) (fun v h1 h2 => by rcases (show v = 0 ∨ v = 1 ∨ v = 2 ∨ v = 3 ∨ v = 4 ∨ v = 5 ∨ v = 6 ∨ v = 7 ∨ v = 8 ∨ v = 9 ∨ v = 10 ∨ v = 11 ∨ v = 12 ∨ v = 13 by omega) with rfl | rfl | rfl | rfl | rfl | rfl | rfl | rfl | rfl | rfl | rfl | rfl | rfl | rfl <;> first | exact ⟨0, by decide, c7⟩ | exact ⟨1, by decide, c9⟩ | exact ⟨2, by decide, c12⟩ | exact ⟨3, by decide, c18⟩ | exact ⟨4, by decide, c20⟩ | exact ⟨5, by decide, c22⟩ | exact ⟨6, by decide, c24⟩ | exact ⟨7, by decide, c34⟩ | exact ⟨8, by decide, c44⟩ | exact ⟨9, by decide, c54⟩ | exact ⟨10, by decide, c64⟩ | exact ⟨11, by decide, c74⟩ | exact ⟨12, by decide, c84⟩ | exact ⟨13, by decide, c94⟩)) (by decide) ?_
    refine lv_iload_n hx hb dX9_bottle_153 rfl (lv_at hl 3 rfl) ?_
    refine lv_bipush (v := 6) hx hb dX9_bottle_154 (by decide) ?_
    refine lv_bipush (v := 12) hx hb dX9_bottle_156 (by decide) ?_
    refine mg_Sz (As := [.int v2, .int 6, .int 12]) (rest := []) (ct_X9_in l (w := w) (I := I) (R := R) rfl) C K hP hS hl.1 ml_X9_81 wy_X9_in wd_X9_in rfl rfl rfl ⟨Nat.le_of_ble_eq_true rfl, Nat.le_of_ble_eq_true rfl⟩ (Nat.le_of_ble_eq_true rfl) ⟨Nat.zero_le _, Nat.zero_le _⟩ dX9_bottle_158 (fun H locs hP z97 hS => ?_)
    refine lv_if_ne (tgt := 170) hx hb dX9_bottle_161 (by decide) (fun c98 => ?_) (fun c98 => ?_)
    · replace h := mc_ie h c98
      refine lv_aload_n hx hb dX9_bottle_170 rfl (lv_at hl 1 rfl) ?_
      refine lv_iload_n hx hb dX9_bottle_171 rfl (lv_at hl 2 rfl) ?_
      obtain ⟨r99, e100, h⟩ := mc_ob_e h
      refine mg_Vz (As := [.int v1]) (rest := []) (ct_X9_isShut l (w := w) (I := I) (R := R) e100) C K hP hS hl.1 kr_0 (by decide) rfl rfl ml_X9_168 wy_X9_isShut wd_X9_isShut rfl rfl rfl ⟨Nat.le_of_ble_eq_true rfl, Nat.le_of_ble_eq_true rfl⟩ (Nat.le_of_ble_eq_true rfl) ⟨Nat.zero_le _, Nat.zero_le _⟩ dX9_bottle_172 (fun H locs hP z101 hS => ?_)
      refine lv_if_eq (tgt := 187) hx hb dX9_bottle_175 (by decide) (fun c102 => ?_) (fun c102 => ?_)
      · replace h := mc_it h c102
        refine lv_sipush (v := (-1005)) hx hb dX9_bottle_187 (by decide) ?_
        cases h
        exact mt_i hC hr hlk K hP hS dX9_bottle_190
      · replace h := mc_ie h c102
        refine lv_aload_n hx hb dX9_bottle_178 rfl (lv_at hl 1 rfl) ?_
        refine lv_iload_n hx hb dX9_bottle_179 rfl (lv_at hl 2 rfl) ?_
        refine lv_iload_n hx hb dX9_bottle_180 rfl (lv_at hl 3 rfl) ?_
        obtain ⟨r103, e104, h⟩ := mc_ob_e h
        refine mg_Vi (As := [.int v1, .int v2]) (rest := []) (ct_X9_asShut l (w := w) (I := I) (R := R) e104) C K hP hS hl.1 kr_0 (by decide) rfl rfl ml_X9_171 wy_X9_asShut wd_X9_asShut rfl rfl rfl ⟨Nat.le_of_ble_eq_true rfl, Nat.le_of_ble_eq_true rfl⟩ (Nat.le_of_ble_eq_true rfl) ⟨Nat.zero_le _, Nat.zero_le _⟩ dX9_bottle_181 (fun H locs hP hS => ?_)
        refine lv_goto (tgt := 190) hx hb dX9_bottle_184 (by decide) ?_
        cases h
        exact mt_i hC hr hlk K hP hS dX9_bottle_190
    · replace h := mc_it h c98
      refine lv_sipush (v := (-1002)) hx hb dX9_bottle_164 (by decide) ?_
      refine lv_goto (tgt := 190) hx hb dX9_bottle_167 (by decide) ?_
      cases h
      exact mt_i hC hr hlk K hP hS dX9_bottle_190
  · replace h := mc_it h c4
    refine lv_sipush (v := (-1001)) hx hb dX9_bottle_8 (by decide) ?_
    cases h
    exact mt_i hC hr hlk K hP hS dX9_bottle_11
set_option maxHeartbeats 4000000 in
set_option maxRecDepth 100000 in
theorem ct_X9_messenger (l : Launch) {w : mc_w} {I : Nat → Nat → Int32} {R : Nat → Nat → Option Nat} {v1 : Int32} {v2 : Int32} {rz : Int32} (h : mi_X9_messenger I v1 v2 = some rz) : Met l yX9_messenger (Cond.code yX9_messenger cX9_messenger 4 (some .int) :: mc_big) ({ frames := 2, cells := 0, slots := 0, locals := 41 } : Room) (va_Pc [.ref (w.2.2.1 0), .int v1, .int v2] (mc_B mr_k 3 w I R)) (mc_Q (some (.int rz)) (mc_B mr_k 3 w I R) (mc_A 3 w)) 0 0 (mc_A 3 w) := by
  refine Met.ofW (cc := cX9_messenger) (maxL := 4) (ret := (some .int)) (by decide) rfl ?_
  intro p e s m args below meth c s₁ B hml hv
  obtain ⟨rfl, hP, K⟩ := hv
  have hown : s.vm.findClass RX9 = some m.cls := findClass_of_methodNamed B.named
  have C : CallFix p m c cX9_messenger 4 s _ mc_big RX9 := ⟨B.exec, B.bytes, hml, hown, fun w hw => atoms_spec B.pre w (List.mem_cons_of_mem _ hw)⟩
  have hx := C.1
  have hb := C.2.1
  have hC := And.intro C.1 C.2.1
  have hr := B.returns
  have hlk := B.notSynchronized
  have hS : va_S (mc_A 3 w) s.heap s.heap [] := va_S.rf
  have hl := lv_entry ([.ref (w.2.2.1 0), .int v1, .int v2]) (n := 4) (Nat.le_of_ble_eq_true rfl)
  rw [lg_entry_eq]
  generalize (lg_sl ([.ref (w.2.2.1 0), .int v1, .int v2]) ++ List.replicate (4 - (lg_sl ([.ref (w.2.2.1 0), .int v1, .int v2])).length) Slot.unset).toArray = ls at hl ⊢
  have hl : lv_has ls 4 [(0, .ref (w.2.2.1 0)), (1, .int v1), (2, .int v2)] := hl
  unfold mi_X9_messenger at h
  refine lv_iload_n hx hb dX9_messenger_0 rfl (lv_at hl 1 rfl) ?_
  refine lv_if_lt (tgt := 13) hx hb dX9_messenger_1 (by decide) (fun c1 => ?_) (fun c1 => ?_)
  · replace h := mc_it h c1
    refine lv_sipush (v := (-1002)) hx hb dX9_messenger_13 (by decide) ?_
    cases h
    exact mt_i hC hr hlk K hP hS dX9_messenger_16
  · replace h := mc_ie h c1
    refine lv_iload_n hx hb dX9_messenger_4 rfl (lv_at hl 2 rfl) ?_
    refine lv_iconst (v := 0) hx hb dX9_messenger_5 (by decide) ?_
    refine lv_iconst (v := 1) hx hb dX9_messenger_6 (by decide) ?_
    refine mg_Sz (As := [.int v2, .int 0, .int 1]) (rest := []) (ct_X9_in l (w := w) (I := I) (R := R) rfl) C K hP hS hl.1 ml_X9_81 wy_X9_in wd_X9_in rfl rfl rfl ⟨Nat.le_of_ble_eq_true rfl, Nat.le_of_ble_eq_true rfl⟩ (Nat.le_of_ble_eq_true rfl) ⟨Nat.zero_le _, Nat.zero_le _⟩ dX9_messenger_7 (fun H locs hP z3 hS => ?_)
    refine lv_if_ne (tgt := 17) hx hb dX9_messenger_10 (by decide) (fun c4 => ?_) (fun c4 => ?_)
    · replace h := mc_ie h c4
      refine lv_iload_n hx hb dX9_messenger_17 rfl (lv_at hl 1 rfl) ?_
      refine lv_aload_n hx hb dX9_messenger_18 rfl (lv_at hl 0 rfl) ?_
      refine mf_X9_7 C K hP kr_0 dX9_messenger_19 ?_
      refine lv_iconst (v := 5) hx hb dX9_messenger_22 (by decide) ?_
      obtain ⟨g5, h⟩ := mc_gd h
      refine ma_l16 hC K hP kr_1 g5 dX9_messenger_23 ?_
      refine lv_icmp_lt (tgt := 31) hx hb dX9_messenger_24 (by decide) (fun c6 => ?_) (fun c6 => ?_)
      · replace h := mc_it h c6
        refine lv_aload_n hx hb dX9_messenger_31 rfl (lv_at hl 0 rfl) ?_
        refine mf_X9_7 C K hP kr_0 dX9_messenger_32 ?_
        refine lv_iconst (v := 0) hx hb dX9_messenger_35 (by decide) ?_
        refine lv_iload_n hx hb dX9_messenger_36 rfl (lv_at hl 1 rfl) ?_
        refine mg_Si (As := [.int 0, .int v1]) (rest := [.ref (w.2.2.1 1)]) (ct_X9_messengerAt l (w := w) (I := I) (R := R) rfl) C K hP hS hl.1 ml_X9_54 wy_X9_messengerAt wd_X9_messengerAt rfl rfl rfl ⟨Nat.le_of_ble_eq_true rfl, Nat.le_of_ble_eq_true rfl⟩ (Nat.le_of_ble_eq_true rfl) ⟨Nat.zero_le _, Nat.zero_le _⟩ dX9_messenger_37 (fun H locs hP hS => ?_)
        obtain ⟨g8, h⟩ := mc_gd h
        refine ma_l16 hC K hP kr_1 g8 dX9_messenger_40 ?_
        obtain ⟨x9, ex9, h⟩ := mc_bn_e h
        refine mv_top ex9 ?_
        refine lv_istore_n (i := 3) (lv' := [(3, .int x9), (0, .ref (w.2.2.1 0)), (1, .int v1), (2, .int v2)]) hx hb dX9_messenger_41 rfl hl (by decide) rfl (fun ls hl => ?_)
        refine lv_iload_n hx hb dX9_messenger_42 rfl (lv_at hl 3 rfl) ?_
        refine lv_if_ne (tgt := 50) hx hb dX9_messenger_43 (by decide) (fun c10 => ?_) (fun c10 => ?_)
        · replace h := mc_ie h c10
          refine lv_aload_n hx hb dX9_messenger_50 rfl (lv_at hl 1 rfl) ?_
          refine mf_X9_7 C K hP kr_0 dX9_messenger_51 ?_
          refine lv_iconst (v := 1) hx hb dX9_messenger_54 (by decide) ?_
          obtain ⟨g11, h⟩ := mc_gd h
          refine ma_l16 hC K hP kr_1 g11 dX9_messenger_55 ?_
          refine lv_iload_n hx hb dX9_messenger_56 rfl (lv_at hl 0 rfl) ?_
          refine lv_isub hx hb dX9_messenger_57 ?_
          refine lv_aload_n hx hb dX9_messenger_58 rfl (lv_at hl 1 rfl) ?_
          refine lv_iconst (v := 0) hx hb dX9_messenger_59 (by decide) ?_
          obtain ⟨r12, e13, h⟩ := mc_ob_e h
          refine mg_Vi (As := [.int 0]) (rest := [.int ((I 1 (1 : Int32).toNatClampNeg) - x9)]) (ct_X9_counted l (w := w) (I := I) (R := R) e13) C K hP hS hl.1 kr_0 (by decide) rfl rfl ml_X9_45 wy_X9_counted wd_X9_counted rfl rfl rfl ⟨Nat.le_of_ble_eq_true rfl, Nat.le_of_ble_eq_true rfl⟩ (Nat.le_of_ble_eq_true rfl) ⟨Nat.zero_le _, Nat.zero_le _⟩ dX9_messenger_60 (fun H locs hP hS => ?_)
          refine mg_Si (As := [.int ((I 1 (1 : Int32).toNatClampNeg) - x9), .int r12]) (rest := []) (ct_X9_deep l (w := w) (I := I) (R := R) rfl) C K hP hS hl.1 ml_X9_48 wy_X9_deep wd_X9_deep rfl rfl rfl ⟨Nat.le_of_ble_eq_true rfl, Nat.le_of_ble_eq_true rfl⟩ (Nat.le_of_ble_eq_true rfl) ⟨Nat.zero_le _, Nat.zero_le _⟩ dX9_messenger_63 (fun H locs hP hS => ?_)
          cases h
          exact mt_i hC hr hlk K hP hS dX9_messenger_66
        · replace h := mc_it h c10
          refine lv_iload_n hx hb dX9_messenger_46 rfl (lv_at hl 0 rfl) ?_
          refine lv_goto (tgt := 66) hx hb dX9_messenger_47 (by decide) ?_
          cases h
          exact mt_i hC hr hlk K hP hS dX9_messenger_66
      · replace h := mc_ie h c6
        refine lv_sipush (v := (-1005)) hx hb dX9_messenger_27 (by decide) ?_
        cases h
        exact mt_i hC hr hlk K hP hS dX9_messenger_30
    · replace h := mc_it h c4
      refine lv_sipush (v := (-1002)) hx hb dX9_messenger_13 (by decide) ?_
      cases h
      exact mt_i hC hr hlk K hP hS dX9_messenger_16
set_option maxHeartbeats 4000000 in
set_option maxRecDepth 100000 in
theorem bk_X9_bottlesIn_J60 {p : Program} {l : Launch} {e : Env} {s : State} {m : MethodId} {args : Array Value} {below : List Frame} {meth : Method} {c : Code} (C : CallFix p m c cX9_bottlesIn 6 s args mc_big RX9) (hr : meth.sig.returnType = (some .int)) (hlk : meth.locks = false) {w : mc_w} (K : mc_K mr_k 3 w s) {I : Nat → Nat → Int32} {R : Nat → Nat → Option Nat} {F : Nat} {rz : Int32} {k5 : (Nat → Nat → Int32) → Int32 → Int32 → Int32 → Int32 → Option (Int32)} (hk5 : ∀ (v1 : Int32) (v2 : Int32) (v3 : Int32) (v4 : Int32), k5 I v1 v2 v3 v4 = some rz → ∀ {H : Heap} {locs : List Loc} {ls : Array Slot}, mc_P mr_k 3 w I R H → va_S (mc_A 3 w) s.heap H locs → lv_has ls 6 [(0, .ref (w.2.2.1 0)), (1, .int v1), (2, .int v2), (3, .int v3), (4, .int v4)] → W p l e ({ frames := 3, cells := 0, slots := 0, locals := 65 } : Room) s m args below meth c H locs 0 0 (MQ below (mc_Q (some (.int rz)) (mc_B mr_k 3 w I R) (mc_A 3 w)) args s 0 0 (mc_A 3 w)) (F0 m 5 ls [])) : ∀ (v1 : Int32) (v2 : Int32) (v3 : Int32) (v4 : Int32) (s0 : Int32), mi_X9_bottlesIn_J60 k5 F I v1 v2 v3 v4 s0 = some rz → ∀ {H : Heap} {locs : List Loc} {ls : Array Slot}, mc_P mr_k 3 w I R H → va_S (mc_A 3 w) s.heap H locs → lv_has ls 6 [(0, .ref (w.2.2.1 0)), (1, .int v1), (2, .int v2), (3, .int v3), (4, .int v4)] → W p l e ({ frames := 3, cells := 0, slots := 0, locals := 65 } : Room) s m args below meth c H locs 0 0 (MQ below (mc_Q (some (.int rz)) (mc_B mr_k 3 w I R) (mc_A 3 w)) args s 0 0 (mc_A 3 w)) (F0 m 60 ls [.int s0]) := by
  intro v1 v2 v3 v4 s0 h  H locs ls hP hS hl
  have hx := C.1
  have hb := C.2.1
  have hC := And.intro C.1 C.2.1
  unfold mi_X9_bottlesIn_J60 at h
  refine lv_istore (i := 5) (lv' := [(5, .int s0), (0, .ref (w.2.2.1 0)), (1, .int v1), (2, .int v2), (3, .int v3), (4, .int v4)]) hx hb dX9_bottlesIn_60 hl (by decide) rfl (fun ls hl => ?_)
  refine lv_iload_n hx hb dX9_bottlesIn_62 rfl (lv_at hl 4 rfl) ?_
  refine lv_aload_n hx hb dX9_bottlesIn_63 rfl (lv_at hl 1 rfl) ?_
  refine lv_iload hx hb dX9_bottlesIn_64 (lv_at hl 5 rfl) ?_
  obtain ⟨r13, e14, h⟩ := mc_ob_e h
  refine mg_Vz (As := [.int v4]) (rest := [.int v3]) (ct_X9_isShut l (w := w) (I := I) (R := R) e14) C K hP hS hl.1 kr_0 (by decide) rfl rfl ml_X9_168 wy_X9_isShut wd_X9_isShut rfl rfl rfl ⟨Nat.le_of_ble_eq_true rfl, Nat.le_of_ble_eq_true rfl⟩ (Nat.le_of_ble_eq_true rfl) ⟨Nat.zero_le _, Nat.zero_le _⟩ dX9_bottlesIn_66 (fun H locs hP z15 hS => ?_)
  refine lv_iload_n hx hb dX9_bottlesIn_69 rfl (lv_at hl 3 rfl) ?_
  refine lv_icmp_ne (tgt := 97) hx hb dX9_bottlesIn_70 (by decide) (fun c16 => ?_) (fun c16 => ?_)
  · replace h := mc_ie h c16
    refine lv_iconst (v := 0) hx hb dX9_bottlesIn_97 (by decide) ?_
    refine mg_Si (As := [.int 0]) (rest := [.int v3]) (ct_X9_flag l (w := w) (I := I) (R := R) rfl) C K hP hS hl.1 ml_X9_74 wy_X9_flag wd_X9_flag rfl rfl rfl ⟨Nat.le_of_ble_eq_true rfl, Nat.le_of_ble_eq_true rfl⟩ (Nat.le_of_ble_eq_true rfl) ⟨Nat.zero_le _, Nat.zero_le _⟩ dX9_bottlesIn_98 (fun H locs hP hS => ?_)
    refine lv_iadd hx hb dX9_bottlesIn_101 ?_
    obtain ⟨x18, ex18, h⟩ := mc_bn_e h
    refine mv_top ex18 ?_
    refine lv_istore_n (i := 3) (lv' := [(3, .int x18), (5, .int s0), (0, .ref (w.2.2.1 0)), (1, .int v1), (2, .int v2), (4, .int v4)]) hx hb dX9_bottlesIn_102 rfl hl (by decide) rfl (fun ls hl => ?_)
    obtain ⟨x19, ex19, h⟩ := mc_bn_e h
    refine lv_iinc (v := x19) (lv' := [(4, .int x19), (3, .int x18), (5, .int s0), (0, .ref (w.2.2.1 0)), (1, .int v1), (2, .int v2)]) hx hb dX9_bottlesIn_103 hl (k := 5) rfl (by rw [ex19]; rfl) (by decide) rfl (fun ls hl => ?_)
    refine lv_goto (tgt := 5) hx hb dX9_bottlesIn_106 (by decide) ?_
    exact hk5 v1 v2 x18 x19 h  hP hS (lv_sub hl [3, 4, 5, 1, 0] rfl)
  · replace h := mc_it h c16
    refine lv_iload hx hb dX9_bottlesIn_73 (lv_at hl 0 rfl) ?_
    refine lv_iload_n hx hb dX9_bottlesIn_75 rfl (lv_at hl 2 rfl) ?_
    refine lv_icmp_ne (tgt := 97) hx hb dX9_bottlesIn_76 (by decide) (fun c20 => ?_) (fun c20 => ?_)
    · replace h := mc_ie h c20
      refine lv_iconst (v := 0) hx hb dX9_bottlesIn_97 (by decide) ?_
      refine mg_Si (As := [.int 0]) (rest := [.int v3]) (ct_X9_flag l (w := w) (I := I) (R := R) rfl) C K hP hS hl.1 ml_X9_74 wy_X9_flag wd_X9_flag rfl rfl rfl ⟨Nat.le_of_ble_eq_true rfl, Nat.le_of_ble_eq_true rfl⟩ (Nat.le_of_ble_eq_true rfl) ⟨Nat.zero_le _, Nat.zero_le _⟩ dX9_bottlesIn_98 (fun H locs hP hS => ?_)
      refine lv_iadd hx hb dX9_bottlesIn_101 ?_
      obtain ⟨x22, ex22, h⟩ := mc_bn_e h
      refine mv_top ex22 ?_
      refine lv_istore_n (i := 3) (lv' := [(3, .int x22), (5, .int s0), (0, .ref (w.2.2.1 0)), (1, .int v1), (2, .int v2), (4, .int v4)]) hx hb dX9_bottlesIn_102 rfl hl (by decide) rfl (fun ls hl => ?_)
      obtain ⟨x23, ex23, h⟩ := mc_bn_e h
      refine lv_iinc (v := x23) (lv' := [(4, .int x23), (3, .int x22), (5, .int s0), (0, .ref (w.2.2.1 0)), (1, .int v1), (2, .int v2)]) hx hb dX9_bottlesIn_103 hl (k := 5) rfl (by rw [ex23]; rfl) (by decide) rfl (fun ls hl => ?_)
      refine lv_goto (tgt := 5) hx hb dX9_bottlesIn_106 (by decide) ?_
      exact hk5 v1 v2 x22 x23 h  hP hS (lv_sub hl [3, 4, 5, 1, 0] rfl)
    · replace h := mc_it h c20
      refine lv_iload_n hx hb dX9_bottlesIn_79 rfl (lv_at hl 3 rfl) ?_
      refine lv_if_ne (tgt := 93) hx hb dX9_bottlesIn_80 (by decide) (fun c24 => ?_) (fun c24 => ?_)
      · replace h := mc_ie h c24
        refine lv_iconst (v := 1) hx hb dX9_bottlesIn_93 (by decide) ?_
        refine lv_goto (tgt := 98) hx hb dX9_bottlesIn_94 (by decide) ?_
        refine mg_Si (As := [.int 1]) (rest := [.int v3]) (ct_X9_flag l (w := w) (I := I) (R := R) rfl) C K hP hS hl.1 ml_X9_74 wy_X9_flag wd_X9_flag rfl rfl rfl ⟨Nat.le_of_ble_eq_true rfl, Nat.le_of_ble_eq_true rfl⟩ (Nat.le_of_ble_eq_true rfl) ⟨Nat.zero_le _, Nat.zero_le _⟩ dX9_bottlesIn_98 (fun H locs hP hS => ?_)
        refine lv_iadd hx hb dX9_bottlesIn_101 ?_
        obtain ⟨x26, ex26, h⟩ := mc_bn_e h
        refine mv_top ex26 ?_
        refine lv_istore_n (i := 3) (lv' := [(3, .int x26), (5, .int s0), (0, .ref (w.2.2.1 0)), (1, .int v1), (2, .int v2), (4, .int v4)]) hx hb dX9_bottlesIn_102 rfl hl (by decide) rfl (fun ls hl => ?_)
        obtain ⟨x27, ex27, h⟩ := mc_bn_e h
        refine lv_iinc (v := x27) (lv' := [(4, .int x27), (3, .int x26), (5, .int s0), (0, .ref (w.2.2.1 0)), (1, .int v1), (2, .int v2)]) hx hb dX9_bottlesIn_103 hl (k := 5) rfl (by rw [ex27]; rfl) (by decide) rfl (fun ls hl => ?_)
        refine lv_goto (tgt := 5) hx hb dX9_bottlesIn_106 (by decide) ?_
        exact hk5 v1 v2 x26 x27 h  hP hS (lv_sub hl [3, 4, 5, 1, 0] rfl)
      · replace h := mc_it h c24
        refine lv_aload_n hx hb dX9_bottlesIn_83 rfl (lv_at hl 1 rfl) ?_
        refine lv_iconst (v := 0) hx hb dX9_bottlesIn_84 (by decide) ?_
        refine lv_iload hx hb dX9_bottlesIn_85 (lv_at hl 5 rfl) ?_
        obtain ⟨r28, e29, h⟩ := mc_ob_e h
        refine mg_Vz (As := [.int 0, .int v4]) (rest := [.int v3]) (ct_X9_isInWater l (w := w) (I := I) (R := R) e29) C K hP hS hl.1 kr_0 (by decide) rfl rfl ml_X9_38 wy_X9_isInWater wd_X9_isInWater rfl rfl rfl ⟨Nat.le_of_ble_eq_true rfl, Nat.le_of_ble_eq_true rfl⟩ (Nat.le_of_ble_eq_true rfl) ⟨Nat.zero_le _, Nat.zero_le _⟩ dX9_bottlesIn_87 (fun H locs hP z30 hS => ?_)
        refine lv_if_eq (tgt := 97) hx hb dX9_bottlesIn_90 (by decide) (fun c31 => ?_) (fun c31 => ?_)
        · replace h := mc_it h c31
          refine lv_iconst (v := 0) hx hb dX9_bottlesIn_97 (by decide) ?_
          refine mg_Si (As := [.int 0]) (rest := [.int v3]) (ct_X9_flag l (w := w) (I := I) (R := R) rfl) C K hP hS hl.1 ml_X9_74 wy_X9_flag wd_X9_flag rfl rfl rfl ⟨Nat.le_of_ble_eq_true rfl, Nat.le_of_ble_eq_true rfl⟩ (Nat.le_of_ble_eq_true rfl) ⟨Nat.zero_le _, Nat.zero_le _⟩ dX9_bottlesIn_98 (fun H locs hP hS => ?_)
          refine lv_iadd hx hb dX9_bottlesIn_101 ?_
          obtain ⟨x33, ex33, h⟩ := mc_bn_e h
          refine mv_top ex33 ?_
          refine lv_istore_n (i := 3) (lv' := [(3, .int x33), (5, .int s0), (0, .ref (w.2.2.1 0)), (1, .int v1), (2, .int v2), (4, .int v4)]) hx hb dX9_bottlesIn_102 rfl hl (by decide) rfl (fun ls hl => ?_)
          obtain ⟨x34, ex34, h⟩ := mc_bn_e h
          refine lv_iinc (v := x34) (lv' := [(4, .int x34), (3, .int x33), (5, .int s0), (0, .ref (w.2.2.1 0)), (1, .int v1), (2, .int v2)]) hx hb dX9_bottlesIn_103 hl (k := 5) rfl (by rw [ex34]; rfl) (by decide) rfl (fun ls hl => ?_)
          refine lv_goto (tgt := 5) hx hb dX9_bottlesIn_106 (by decide) ?_
          exact hk5 v1 v2 x33 x34 h  hP hS (lv_sub hl [3, 4, 5, 1, 0] rfl)
        · replace h := mc_ie h c31
          refine lv_iconst (v := 1) hx hb dX9_bottlesIn_93 (by decide) ?_
          refine lv_goto (tgt := 98) hx hb dX9_bottlesIn_94 (by decide) ?_
          refine mg_Si (As := [.int 1]) (rest := [.int v3]) (ct_X9_flag l (w := w) (I := I) (R := R) rfl) C K hP hS hl.1 ml_X9_74 wy_X9_flag wd_X9_flag rfl rfl rfl ⟨Nat.le_of_ble_eq_true rfl, Nat.le_of_ble_eq_true rfl⟩ (Nat.le_of_ble_eq_true rfl) ⟨Nat.zero_le _, Nat.zero_le _⟩ dX9_bottlesIn_98 (fun H locs hP hS => ?_)
          refine lv_iadd hx hb dX9_bottlesIn_101 ?_
          obtain ⟨x36, ex36, h⟩ := mc_bn_e h
          refine mv_top ex36 ?_
          refine lv_istore_n (i := 3) (lv' := [(3, .int x36), (5, .int s0), (0, .ref (w.2.2.1 0)), (1, .int v1), (2, .int v2), (4, .int v4)]) hx hb dX9_bottlesIn_102 rfl hl (by decide) rfl (fun ls hl => ?_)
          obtain ⟨x37, ex37, h⟩ := mc_bn_e h
          refine lv_iinc (v := x37) (lv' := [(4, .int x37), (3, .int x36), (5, .int s0), (0, .ref (w.2.2.1 0)), (1, .int v1), (2, .int v2)]) hx hb dX9_bottlesIn_103 hl (k := 5) rfl (by rw [ex37]; rfl) (by decide) rfl (fun ls hl => ?_)
          refine lv_goto (tgt := 5) hx hb dX9_bottlesIn_106 (by decide) ?_
          exact hk5 v1 v2 x36 x37 h  hP hS (lv_sub hl [3, 4, 5, 1, 0] rfl)
set_option maxHeartbeats 4000000 in
set_option maxRecDepth 100000 in
theorem bk_X9_bottlesIn_B5 {p : Program} {l : Launch} {e : Env} {s : State} {m : MethodId} {args : Array Value} {below : List Frame} {meth : Method} {c : Code} (C : CallFix p m c cX9_bottlesIn 6 s args mc_big RX9) (hr : meth.sig.returnType = (some .int)) (hlk : meth.locks = false) {w : mc_w} (K : mc_K mr_k 3 w s) {I : Nat → Nat → Int32} {R : Nat → Nat → Option Nat} {F : Nat} {rz : Int32} {k5 : (Nat → Nat → Int32) → Int32 → Int32 → Int32 → Int32 → Option (Int32)} (hk5 : ∀ (v1 : Int32) (v2 : Int32) (v3 : Int32) (v4 : Int32), k5 I v1 v2 v3 v4 = some rz → ∀ {H : Heap} {locs : List Loc} {ls : Array Slot}, mc_P mr_k 3 w I R H → va_S (mc_A 3 w) s.heap H locs → lv_has ls 6 [(0, .ref (w.2.2.1 0)), (1, .int v1), (2, .int v2), (3, .int v3), (4, .int v4)] → W p l e ({ frames := 3, cells := 0, slots := 0, locals := 65 } : Room) s m args below meth c H locs 0 0 (MQ below (mc_Q (some (.int rz)) (mc_B mr_k 3 w I R) (mc_A 3 w)) args s 0 0 (mc_A 3 w)) (F0 m 5 ls [])) : ∀ (v1 : Int32) (v2 : Int32) (v3 : Int32) (v4 : Int32), mi_X9_bottlesIn_B5 k5 F I v1 v2 v3 v4 = some rz → ∀ {H : Heap} {locs : List Loc} {ls : Array Slot}, mc_P mr_k 3 w I R H → va_S (mc_A 3 w) s.heap H locs → lv_has ls 6 [(0, .ref (w.2.2.1 0)), (1, .int v1), (2, .int v2), (3, .int v3), (4, .int v4)] → W p l e ({ frames := 3, cells := 0, slots := 0, locals := 65 } : Room) s m args below meth c H locs 0 0 (MQ below (mc_Q (some (.int rz)) (mc_B mr_k 3 w I R) (mc_A 3 w)) args s 0 0 (mc_A 3 w)) (F0 m 5 ls []) := by
  intro v1 v2 v3 v4 h  H locs ls hP hS hl
  have hx := C.1
  have hb := C.2.1
  have hC := And.intro C.1 C.2.1
  unfold mi_X9_bottlesIn_B5 at h
  refine lv_iload hx hb dX9_bottlesIn_5 (lv_at hl 4 rfl) ?_
  refine lv_aload_n hx hb dX9_bottlesIn_7 rfl (lv_at hl 0 rfl) ?_
  refine mf_X9_7 C K hP kr_0 dX9_bottlesIn_8 ?_
  refine lv_iconst (v := 4) hx hb dX9_bottlesIn_11 (by decide) ?_
  obtain ⟨g1, h⟩ := mc_gd h
  refine ma_l16 hC K hP kr_1 g1 dX9_bottlesIn_12 ?_
  refine lv_icmp_ge (tgt := 109) hx hb dX9_bottlesIn_13 (by decide) (fun c2 => ?_) (fun c2 => ?_)
  · replace h := mc_it h c2
    refine lv_iload_n hx hb dX9_bottlesIn_109 rfl (lv_at hl 3 rfl) ?_
    cases h
    exact mt_i hC hr hlk K hP hS dX9_bottlesIn_110
  · replace h := mc_ie h c2
    refine lv_aload_n hx hb dX9_bottlesIn_16 rfl (lv_at hl 0 rfl) ?_
    refine lv_iload hx hb dX9_bottlesIn_17 (lv_at hl 4 rfl) ?_
    obtain ⟨r3, e4, h⟩ := mc_ob_e h
    refine mg_Vz (As := [.int v4]) (rest := []) (ct_X9_isShut l (w := w) (I := I) (R := R) e4) C K hP hS hl.1 kr_0 (by decide) rfl rfl ml_X9_168 wy_X9_isShut wd_X9_isShut rfl rfl rfl ⟨Nat.le_of_ble_eq_true rfl, Nat.le_of_ble_eq_true rfl⟩ (Nat.le_of_ble_eq_true rfl) ⟨Nat.zero_le _, Nat.zero_le _⟩ dX9_bottlesIn_19 (fun H locs hP z5 hS => ?_)
    refine lv_if_eq (tgt := 42) hx hb dX9_bottlesIn_22 (by decide) (fun c6 => ?_) (fun c6 => ?_)
    · replace h := mc_it h c6
      refine lv_aload_n hx hb dX9_bottlesIn_42 rfl (lv_at hl 0 rfl) ?_
      refine lv_iconst (v := 0) hx hb dX9_bottlesIn_43 (by decide) ?_
      refine lv_iload hx hb dX9_bottlesIn_44 (lv_at hl 4 rfl) ?_
      obtain ⟨r7, e8, h⟩ := mc_ob_e h
      refine mg_Vi (As := [.int 0, .int v4]) (rest := []) (ct_X9_metre l (w := w) (I := I) (R := R) e8) C K hP hS hl.1 kr_0 (by decide) rfl rfl ml_X9_42 wy_X9_metre wd_X9_metre rfl rfl rfl ⟨Nat.le_of_ble_eq_true rfl, Nat.le_of_ble_eq_true rfl⟩ (Nat.le_of_ble_eq_true rfl) ⟨Nat.zero_le _, Nat.zero_le _⟩ dX9_bottlesIn_46 (fun H locs hP hS => ?_)
      refine lv_aload_n hx hb dX9_bottlesIn_49 rfl (lv_at hl 0 rfl) ?_
      refine lv_iconst (v := 0) hx hb dX9_bottlesIn_50 (by decide) ?_
      obtain ⟨r9, e10, h⟩ := mc_ob_e h
      refine mg_Vi (As := [.int 0]) (rest := [.int r7]) (ct_X9_counted l (w := w) (I := I) (R := R) e10) C K hP hS hl.1 kr_0 (by decide) rfl rfl ml_X9_45 wy_X9_counted wd_X9_counted rfl rfl rfl ⟨Nat.le_of_ble_eq_true rfl, Nat.le_of_ble_eq_true rfl⟩ (Nat.le_of_ble_eq_true rfl) ⟨Nat.zero_le _, Nat.zero_le _⟩ dX9_bottlesIn_51 (fun H locs hP hS => ?_)
      refine mg_Si (As := [.int r7, .int r9]) (rest := []) (ct_X9_deep l (w := w) (I := I) (R := R) rfl) C K hP hS hl.1 ml_X9_48 wy_X9_deep wd_X9_deep rfl rfl rfl ⟨Nat.le_of_ble_eq_true rfl, Nat.le_of_ble_eq_true rfl⟩ (Nat.le_of_ble_eq_true rfl) ⟨Nat.zero_le _, Nat.zero_le _⟩ dX9_bottlesIn_54 (fun H locs hP hS => ?_)
      refine mg_Si (As := [.int (mi_X9_deep r7 r9)]) (rest := []) (ct_X9_layerOf l (w := w) (I := I) (R := R) rfl) C K hP hS hl.1 ml_X9_51 wy_X9_layerOf wd_X9_layerOf rfl rfl rfl ⟨Nat.le_of_ble_eq_true rfl, Nat.le_of_ble_eq_true rfl⟩ (Nat.le_of_ble_eq_true rfl) ⟨Nat.zero_le _, Nat.zero_le _⟩ dX9_bottlesIn_57 (fun H locs hP hS => ?_)
      exact bk_X9_bottlesIn_J60 C hr hlk K hk5 v1 v2 v3 v4 (mi_X9_layerOf (mi_X9_deep r7 r9)) h  hP hS (lv_sub hl [0, 1, 2, 3, 4] rfl)
    · replace h := mc_ie h c6
      refine lv_aload_n hx hb dX9_bottlesIn_25 rfl (lv_at hl 0 rfl) ?_
      refine mf_X9_7 C K hP kr_0 dX9_bottlesIn_26 ?_
      refine lv_iconst (v := 0) hx hb dX9_bottlesIn_29 (by decide) ?_
      refine lv_iload hx hb dX9_bottlesIn_30 (lv_at hl 4 rfl) ?_
      refine mg_Si (As := [.int 0, .int v4]) (rest := [.ref (w.2.2.1 1)]) (ct_X9_bottleAt l (w := w) (I := I) (R := R) rfl) C K hP hS hl.1 ml_X9_34 wy_X9_bottleAt wd_X9_bottleAt rfl rfl rfl ⟨Nat.le_of_ble_eq_true rfl, Nat.le_of_ble_eq_true rfl⟩ (Nat.le_of_ble_eq_true rfl) ⟨Nat.zero_le _, Nat.zero_le _⟩ dX9_bottlesIn_32 (fun H locs hP hS => ?_)
      refine lv_bipush (v := 10) hx hb dX9_bottlesIn_35 (by decide) ?_
      refine lv_iadd hx hb dX9_bottlesIn_37 ?_
      obtain ⟨g39, h⟩ := mc_gd h
      refine ma_l16 hC K hP kr_1 g39 dX9_bottlesIn_38 ?_
      refine lv_goto (tgt := 60) hx hb dX9_bottlesIn_39 (by decide) ?_
      exact bk_X9_bottlesIn_J60 C hr hlk K hk5 v1 v2 v3 v4 (I 1 ((mi_X9_bottleAt 0 v4) + 10).toNatClampNeg) h  hP hS (lv_sub hl [0, 1, 2, 3, 4] rfl)
theorem bk_X9_bottlesIn_L5 {p : Program} {l : Launch} {e : Env} {s : State} {m : MethodId} {args : Array Value} {below : List Frame} {meth : Method} {c : Code} (C : CallFix p m c cX9_bottlesIn 6 s args mc_big RX9) (hr : meth.sig.returnType = (some .int)) (hlk : meth.locks = false) {w : mc_w} (K : mc_K mr_k 3 w s) {I : Nat → Nat → Int32} {R : Nat → Nat → Option Nat} {F : Nat} {rz : Int32} : ∀ n : Nat, ∀ (v1 : Int32) (v2 : Int32) (v3 : Int32) (v4 : Int32), mi_X9_bottlesIn_L5 F n I v1 v2 v3 v4 = some rz → ∀ {H : Heap} {locs : List Loc} {ls : Array Slot}, mc_P mr_k 3 w I R H → va_S (mc_A 3 w) s.heap H locs → lv_has ls 6 [(0, .ref (w.2.2.1 0)), (1, .int v1), (2, .int v2), (3, .int v3), (4, .int v4)] → W p l e ({ frames := 3, cells := 0, slots := 0, locals := 65 } : Room) s m args below meth c H locs 0 0 (MQ below (mc_Q (some (.int rz)) (mc_B mr_k 3 w I R) (mc_A 3 w)) args s 0 0 (mc_A 3 w)) (F0 m 5 ls []) := by
  intro n
  induction n with
  | zero =>
    intro v1 v2 v3 v4 h
    cases h
  | succ n ih =>
    intro v1 v2 v3 v4 h
    exact bk_X9_bottlesIn_B5 C hr hlk K  ih v1 v2 v3 v4 h
set_option maxHeartbeats 4000000 in
set_option maxRecDepth 100000 in
theorem ct_X9_bottlesIn (l : Launch) {w : mc_w} {I : Nat → Nat → Int32} {R : Nat → Nat → Option Nat} {F : Nat} {v1 : Int32} {v2 : Int32} {rz : Int32} (h : mi_X9_bottlesIn F I v1 v2 = some rz) : Met l yX9_bottlesIn (Cond.code yX9_bottlesIn cX9_bottlesIn 6 (some .int) :: mc_big) ({ frames := 3, cells := 0, slots := 0, locals := 65 } : Room) (va_Pc [.ref (w.2.2.1 0), .int v1, .int v2] (mc_B mr_k 3 w I R)) (mc_Q (some (.int rz)) (mc_B mr_k 3 w I R) (mc_A 3 w)) 0 0 (mc_A 3 w) := by
  refine Met.ofW (cc := cX9_bottlesIn) (maxL := 6) (ret := (some .int)) (by decide) rfl ?_
  intro p e s m args below meth c s₁ B hml hv
  obtain ⟨rfl, hP, K⟩ := hv
  have hown : s.vm.findClass RX9 = some m.cls := findClass_of_methodNamed B.named
  have C : CallFix p m c cX9_bottlesIn 6 s _ mc_big RX9 := ⟨B.exec, B.bytes, hml, hown, fun w hw => atoms_spec B.pre w (List.mem_cons_of_mem _ hw)⟩
  have hx := C.1
  have hb := C.2.1
  have hC := And.intro C.1 C.2.1
  have hr := B.returns
  have hlk := B.notSynchronized
  have hS : va_S (mc_A 3 w) s.heap s.heap [] := va_S.rf
  have hl := lv_entry ([.ref (w.2.2.1 0), .int v1, .int v2]) (n := 6) (Nat.le_of_ble_eq_true rfl)
  rw [lg_entry_eq]
  generalize (lg_sl ([.ref (w.2.2.1 0), .int v1, .int v2]) ++ List.replicate (6 - (lg_sl ([.ref (w.2.2.1 0), .int v1, .int v2])).length) Slot.unset).toArray = ls at hl ⊢
  have hl : lv_has ls 6 [(0, .ref (w.2.2.1 0)), (1, .int v1), (2, .int v2)] := hl
  unfold mi_X9_bottlesIn at h
  refine lv_iconst (v := 0) hx hb dX9_bottlesIn_0 (by decide) ?_
  refine lv_istore_n (i := 3) (lv' := [(3, .int 0), (0, .ref (w.2.2.1 0)), (1, .int v1), (2, .int v2)]) hx hb dX9_bottlesIn_1 rfl hl (by decide) rfl (fun ls hl => ?_)
  refine lv_iconst (v := 0) hx hb dX9_bottlesIn_2 (by decide) ?_
  refine lv_istore (i := 4) (lv' := [(4, .int 0), (3, .int 0), (0, .ref (w.2.2.1 0)), (1, .int v1), (2, .int v2)]) hx hb dX9_bottlesIn_3 hl (by decide) rfl (fun ls hl => ?_)
  exact bk_X9_bottlesIn_L5 C hr hlk K  F v1 v2 0 0 h  hP hS (lv_sub hl [2, 3, 4, 1, 0] rfl)
set_option maxHeartbeats 4000000 in
set_option maxRecDepth 100000 in
theorem ct_X9_layer (l : Launch) {w : mc_w} {I : Nat → Nat → Int32} {R : Nat → Nat → Option Nat} {F : Nat} {v1 : Int32} {v2 : Int32} {rz : Int32} (h : mi_X9_layer F I v1 v2 = some rz) : Met l yX9_layer (Cond.code yX9_layer cX9_layer 3 (some .int) :: mc_big) ({ frames := 4, cells := 0, slots := 0, locals := 90 } : Room) (va_Pc [.ref (w.2.2.1 0), .int v1, .int v2] (mc_B mr_k 3 w I R)) (mc_Q (some (.int rz)) (mc_B mr_k 3 w I R) (mc_A 3 w)) 0 0 (mc_A 3 w) := by
  refine Met.ofW (cc := cX9_layer) (maxL := 3) (ret := (some .int)) (by decide) rfl ?_
  intro p e s m args below meth c s₁ B hml hv
  obtain ⟨rfl, hP, K⟩ := hv
  have hown : s.vm.findClass RX9 = some m.cls := findClass_of_methodNamed B.named
  have C : CallFix p m c cX9_layer 3 s _ mc_big RX9 := ⟨B.exec, B.bytes, hml, hown, fun w hw => atoms_spec B.pre w (List.mem_cons_of_mem _ hw)⟩
  have hx := C.1
  have hb := C.2.1
  have hC := And.intro C.1 C.2.1
  have hr := B.returns
  have hlk := B.notSynchronized
  have hS : va_S (mc_A 3 w) s.heap s.heap [] := va_S.rf
  have hl := lv_entry ([.ref (w.2.2.1 0), .int v1, .int v2]) (n := 3) (Nat.le_of_ble_eq_true rfl)
  rw [lg_entry_eq]
  generalize (lg_sl ([.ref (w.2.2.1 0), .int v1, .int v2]) ++ List.replicate (3 - (lg_sl ([.ref (w.2.2.1 0), .int v1, .int v2])).length) Slot.unset).toArray = ls at hl ⊢
  have hl : lv_has ls 3 [(0, .ref (w.2.2.1 0)), (1, .int v1), (2, .int v2)] := hl
  unfold mi_X9_layer at h
  refine lv_iload_n hx hb dX9_layer_0 rfl (lv_at hl 1 rfl) ?_
  refine lv_iconst (v := 0) hx hb dX9_layer_1 (by decide) ?_
  refine lv_bipush (v := 9) hx hb dX9_layer_2 (by decide) ?_
  refine mg_Sz (As := [.int v1, .int 0, .int 9]) (rest := []) (ct_X9_in l (w := w) (I := I) (R := R) rfl) C K hP hS hl.1 ml_X9_81 wy_X9_in wd_X9_in rfl rfl rfl ⟨Nat.le_of_ble_eq_true rfl, Nat.le_of_ble_eq_true rfl⟩ (Nat.le_of_ble_eq_true rfl) ⟨Nat.zero_le _, Nat.zero_le _⟩ dX9_layer_4 (fun H locs hP z2 hS => ?_)
  refine lv_if_ne (tgt := 14) hx hb dX9_layer_7 (by decide) (fun c3 => ?_) (fun c3 => ?_)
  · replace h := mc_ie h c3
    refine lv_iload_n hx hb dX9_layer_14 rfl (lv_at hl 2 rfl) ?_
    refine lv_iconst (v := 0) hx hb dX9_layer_15 (by decide) ?_
    refine lv_iconst (v := 3) hx hb dX9_layer_16 (by decide) ?_
    refine mg_Sz (As := [.int v2, .int 0, .int 3]) (rest := []) (ct_X9_in l (w := w) (I := I) (R := R) rfl) C K hP hS hl.1 ml_X9_81 wy_X9_in wd_X9_in rfl rfl rfl ⟨Nat.le_of_ble_eq_true rfl, Nat.le_of_ble_eq_true rfl⟩ (Nat.le_of_ble_eq_true rfl) ⟨Nat.zero_le _, Nat.zero_le _⟩ dX9_layer_17 (fun H locs hP z5 hS => ?_)
    refine lv_if_ne (tgt := 27) hx hb dX9_layer_20 (by decide) (fun c6 => ?_) (fun c6 => ?_)
    · replace h := mc_ie h c6
      refine lv_iload_n hx hb dX9_layer_27 rfl (lv_at hl 2 rfl) ?_
      refine lv_iconst (v := 2) hx hb dX9_layer_28 (by decide) ?_
      refine lv_icmp_ge (tgt := 48) hx hb dX9_layer_29 (by decide) (fun c7 => ?_) (fun c7 => ?_)
      · replace h := mc_it h c7
        refine lv_aload_n hx hb dX9_layer_48 rfl (lv_at hl 0 rfl) ?_
        refine lv_iload_n hx hb dX9_layer_49 rfl (lv_at hl 1 rfl) ?_
        refine lv_iload_n hx hb dX9_layer_50 rfl (lv_at hl 2 rfl) ?_
        refine lv_iconst (v := 3) hx hb dX9_layer_51 (by decide) ?_
        refine lv_icmp_ne (tgt := 59) hx hb dX9_layer_52 (by decide) (fun c8 => ?_) (fun c8 => ?_)
        · replace h := mc_ie h c8
          refine lv_iconst (v := 0) hx hb dX9_layer_59 (by decide) ?_
          obtain ⟨r9, e10, h⟩ := mc_ob_e h
          refine mg_Vi (As := [.int v1, .int 0]) (rest := []) (ct_X9_bottlesIn l (w := w) (I := I) (R := R) e10) C K hP hS hl.1 kr_0 (by decide) rfl rfl ml_X9_174 wy_X9_bottlesIn wd_X9_bottlesIn rfl rfl rfl ⟨Nat.le_of_ble_eq_true rfl, Nat.le_of_ble_eq_true rfl⟩ (Nat.le_of_ble_eq_true rfl) ⟨Nat.zero_le _, Nat.zero_le _⟩ dX9_layer_60 (fun H locs hP hS => ?_)
          cases h
          exact mt_i hC hr hlk K hP hS dX9_layer_63
        · replace h := mc_it h c8
          refine lv_iconst (v := 1) hx hb dX9_layer_55 (by decide) ?_
          refine lv_goto (tgt := 60) hx hb dX9_layer_56 (by decide) ?_
          obtain ⟨r11, e12, h⟩ := mc_ob_e h
          refine mg_Vi (As := [.int v1, .int 1]) (rest := []) (ct_X9_bottlesIn l (w := w) (I := I) (R := R) e12) C K hP hS hl.1 kr_0 (by decide) rfl rfl ml_X9_174 wy_X9_bottlesIn wd_X9_bottlesIn rfl rfl rfl ⟨Nat.le_of_ble_eq_true rfl, Nat.le_of_ble_eq_true rfl⟩ (Nat.le_of_ble_eq_true rfl) ⟨Nat.zero_le _, Nat.zero_le _⟩ dX9_layer_60 (fun H locs hP hS => ?_)
          cases h
          exact mt_i hC hr hlk K hP hS dX9_layer_63
      · replace h := mc_ie h c7
        refine lv_aload_n hx hb dX9_layer_32 rfl (lv_at hl 0 rfl) ?_
        refine mf_X9_7 C K hP kr_0 dX9_layer_33 ?_
        refine lv_bipush (v := 13) hx hb dX9_layer_36 (by decide) ?_
        refine lv_iconst (v := 2) hx hb dX9_layer_38 (by decide) ?_
        refine lv_iload_n hx hb dX9_layer_39 rfl (lv_at hl 1 rfl) ?_
        refine lv_imul hx hb dX9_layer_40 ?_
        refine lv_iadd hx hb dX9_layer_41 ?_
        refine lv_iload_n hx hb dX9_layer_42 rfl (lv_at hl 2 rfl) ?_
        refine lv_iadd hx hb dX9_layer_43 ?_
        obtain ⟨g13, h⟩ := mc_gd h
        refine ma_l16 hC K hP kr_1 g13 dX9_layer_44 ?_
        refine lv_goto (tgt := 63) hx hb dX9_layer_45 (by decide) ?_
        cases h
        exact mt_i hC hr hlk K hP hS dX9_layer_63
    · replace h := mc_it h c6
      refine lv_sipush (v := (-1002)) hx hb dX9_layer_23 (by decide) ?_
      cases h
      exact mt_i hC hr hlk K hP hS dX9_layer_26
  · replace h := mc_it h c3
    refine lv_sipush (v := (-1001)) hx hb dX9_layer_10 (by decide) ?_
    cases h
    exact mt_i hC hr hlk K hP hS dX9_layer_13
set_option maxHeartbeats 4000000 in
set_option maxRecDepth 100000 in
theorem ct_X9_depth (l : Launch) {w : mc_w} {I : Nat → Nat → Int32} {R : Nat → Nat → Option Nat} {v1 : Int32} {v2 : Int32} {rz : Int32} (h : mi_X9_depth v1 v2 = rz) : Met l yX9_depth (Cond.code yX9_depth cX9_depth 3 (some .int) :: mc_big) ({ frames := 2, cells := 0, slots := 0, locals := 41 } : Room) (va_Pc [.ref (w.2.2.1 0), .int v1, .int v2] (mc_B mr_k 3 w I R)) (mc_Q (some (.int rz)) (mc_B mr_k 3 w I R) (mc_A 3 w)) 0 0 (mc_A 3 w) := by
  refine Met.ofW (cc := cX9_depth) (maxL := 3) (ret := (some .int)) (by decide) rfl ?_
  intro p e s m args below meth c s₁ B hml hv
  obtain ⟨rfl, hP, K⟩ := hv
  have hown : s.vm.findClass RX9 = some m.cls := findClass_of_methodNamed B.named
  have C : CallFix p m c cX9_depth 3 s _ mc_big RX9 := ⟨B.exec, B.bytes, hml, hown, fun w hw => atoms_spec B.pre w (List.mem_cons_of_mem _ hw)⟩
  have hx := C.1
  have hb := C.2.1
  have hC := And.intro C.1 C.2.1
  have hr := B.returns
  have hlk := B.notSynchronized
  have hS : va_S (mc_A 3 w) s.heap s.heap [] := va_S.rf
  have hl := lv_entry ([.ref (w.2.2.1 0), .int v1, .int v2]) (n := 3) (Nat.le_of_ble_eq_true rfl)
  rw [lg_entry_eq]
  generalize (lg_sl ([.ref (w.2.2.1 0), .int v1, .int v2]) ++ List.replicate (3 - (lg_sl ([.ref (w.2.2.1 0), .int v1, .int v2])).length) Slot.unset).toArray = ls at hl ⊢
  have hl : lv_has ls 3 [(0, .ref (w.2.2.1 0)), (1, .int v1), (2, .int v2)] := hl
  unfold mi_X9_depth at h
  refine lv_iload_n hx hb dX9_depth_0 rfl (lv_at hl 1 rfl) ?_
  refine lv_iconst (v := 0) hx hb dX9_depth_1 (by decide) ?_
  refine lv_sipush (v := 999) hx hb dX9_depth_2 (by decide) ?_
  refine mg_Sz (As := [.int v1, .int 0, .int 999]) (rest := []) (ct_X9_in l (w := w) (I := I) (R := R) rfl) C K hP hS hl.1 ml_X9_81 wy_X9_in wd_X9_in rfl rfl rfl ⟨Nat.le_of_ble_eq_true rfl, Nat.le_of_ble_eq_true rfl⟩ (Nat.le_of_ble_eq_true rfl) ⟨Nat.zero_le _, Nat.zero_le _⟩ dX9_depth_5 (fun H locs hP z2 hS => ?_)
  refine lv_if_eq (tgt := 29) hx hb dX9_depth_8 (by decide) (fun c3 => ?_) (fun c3 => ?_)
  · replace h := mc_it h c3
    refine lv_sipush (v := (-1002)) hx hb dX9_depth_29 (by decide) ?_
    cases h
    exact mt_i hC hr hlk K hP hS dX9_depth_32
  · replace h := mc_ie h c3
    refine lv_iload_n hx hb dX9_depth_11 rfl (lv_at hl 2 rfl) ?_
    refine lv_iconst (v := 0) hx hb dX9_depth_12 (by decide) ?_
    refine lv_bipush (v := 6) hx hb dX9_depth_13 (by decide) ?_
    refine mg_Sz (As := [.int v2, .int 0, .int 6]) (rest := []) (ct_X9_in l (w := w) (I := I) (R := R) rfl) C K hP hS hl.1 ml_X9_81 wy_X9_in wd_X9_in rfl rfl rfl ⟨Nat.le_of_ble_eq_true rfl, Nat.le_of_ble_eq_true rfl⟩ (Nat.le_of_ble_eq_true rfl) ⟨Nat.zero_le _, Nat.zero_le _⟩ dX9_depth_15 (fun H locs hP z5 hS => ?_)
    refine lv_if_eq (tgt := 29) hx hb dX9_depth_18 (by decide) (fun c6 => ?_) (fun c6 => ?_)
    · replace h := mc_it h c6
      refine lv_sipush (v := (-1002)) hx hb dX9_depth_29 (by decide) ?_
      cases h
      exact mt_i hC hr hlk K hP hS dX9_depth_32
    · replace h := mc_ie h c6
      refine lv_iload_n hx hb dX9_depth_21 rfl (lv_at hl 1 rfl) ?_
      refine lv_iload_n hx hb dX9_depth_22 rfl (lv_at hl 2 rfl) ?_
      refine mg_Si (As := [.int v1, .int v2]) (rest := []) (ct_X9_deep l (w := w) (I := I) (R := R) rfl) C K hP hS hl.1 ml_X9_48 wy_X9_deep wd_X9_deep rfl rfl rfl ⟨Nat.le_of_ble_eq_true rfl, Nat.le_of_ble_eq_true rfl⟩ (Nat.le_of_ble_eq_true rfl) ⟨Nat.zero_le _, Nat.zero_le _⟩ dX9_depth_23 (fun H locs hP hS => ?_)
      refine lv_goto (tgt := 32) hx hb dX9_depth_26 (by decide) ?_
      cases h
      exact mt_i hC hr hlk K hP hS dX9_depth_32

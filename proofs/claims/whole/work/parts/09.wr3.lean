set_option maxHeartbeats 4000000 in
set_option maxRecDepth 100000 in
theorem bk_X9_secondsTo_B13 {p : Program} {l : Launch} {e : Env} {s : State} {m : MethodId} {args : Array Value} {below : List Frame} {meth : Method} {c : Code} (C : CallFix p m c cX9_secondsTo 5 s args mc_big RX9) (hr : meth.sig.returnType = (some .int)) (hlk : meth.locks = false) {w : mc_w} (K : mc_K mr_k 3 w s) {R : Nat → Nat → Option Nat} {F : Nat} {Iz : Nat → Nat → Int32} {rz : Int32} {k13 : (Nat → Nat → Int32) → Int32 → Int32 → Int32 → (Option ((Nat → Nat → Int32) × Int32))} (hk13 : ∀ (I : Nat → Nat → Int32) (v1 : Int32) (v2 : Int32) (v3 : Int32), k13 I v1 v2 v3 = some (Iz, rz) → ∀ {H : Heap} {locs : List Loc} {ls : Array Slot}, mc_P mr_k 3 w I R H → va_S (mc_A 3 w) s.heap H locs → lv_has ls 5 [(0, .ref (w.2.2.1 0)), (1, .int v1), (2, .int v2), (3, .int v3)] → W p l e ({ frames := 6, cells := 0, slots := 0, locals := 142 } : Room) s m args below meth c H locs 0 0 (MQ below (mc_Q (some (.int rz)) (mc_B mr_k 3 w Iz R) (mc_A 3 w)) args s 0 0 (mc_A 3 w)) (F0 m 13 ls [])) : ∀ (I : Nat → Nat → Int32) (v1 : Int32) (v2 : Int32) (v3 : Int32), mi_X9_secondsTo_B13 k13 F I v1 v2 v3 = some (Iz, rz) → ∀ {H : Heap} {locs : List Loc} {ls : Array Slot}, mc_P mr_k 3 w I R H → va_S (mc_A 3 w) s.heap H locs → lv_has ls 5 [(0, .ref (w.2.2.1 0)), (1, .int v1), (2, .int v2), (3, .int v3)] → W p l e ({ frames := 6, cells := 0, slots := 0, locals := 142 } : Room) s m args below meth c H locs 0 0 (MQ below (mc_Q (some (.int rz)) (mc_B mr_k 3 w Iz R) (mc_A 3 w)) args s 0 0 (mc_A 3 w)) (F0 m 13 ls []) := by
  intro I v1 v2 v3 h  H locs ls hP hS hl
  have hx := C.1
  have hb := C.2.1
  have hC := And.intro C.1 C.2.1
  unfold mi_X9_secondsTo_B13 at h
  refine lv_aload_n hx hb dX9_secondsTo_13 rfl (lv_at hl 0 rfl) ?_
  refine mf_X9_7 C K hP kr_0 dX9_secondsTo_14 ?_
  refine lv_iload_n hx hb dX9_secondsTo_17 rfl (lv_at hl 2 rfl) ?_
  refine lv_iload_n hx hb dX9_secondsTo_18 rfl (lv_at hl 1 rfl) ?_
  refine mg_Si (As := [.int v2, .int v1]) (rest := [.ref (w.2.2.1 1)]) (ct_X9_bottleAt l (w := w) (I := I) (R := R) rfl) C K hP hS hl.1 ml_X9_34 wy_X9_bottleAt wd_X9_bottleAt rfl rfl rfl ⟨Nat.le_of_ble_eq_true rfl, Nat.le_of_ble_eq_true rfl⟩ (Nat.le_of_ble_eq_true rfl) ⟨Nat.zero_le _, Nat.zero_le _⟩ dX9_secondsTo_19 (fun H locs hP hS => ?_)
  refine lv_iconst (v := 1) hx hb dX9_secondsTo_22 (by decide) ?_
  refine lv_iadd hx hb dX9_secondsTo_23 ?_
  obtain ⟨g4, h⟩ := mc_gd h
  refine ma_l16 hC K hP kr_1 g4 dX9_secondsTo_24 ?_
  refine lv_if_ne (tgt := 66) hx hb dX9_secondsTo_25 (by decide) (fun c5 => ?_) (fun c5 => ?_)
  · replace h := mc_ie h c5
    refine lv_iload_n hx hb dX9_secondsTo_66 rfl (lv_at hl 3 rfl) ?_
    cases h
    exact mt_i hC hr hlk K hP hS dX9_secondsTo_67
  · replace h := mc_it h c5
    refine lv_aload_n hx hb dX9_secondsTo_28 rfl (lv_at hl 0 rfl) ?_
    refine mf_X9_7 C K hP kr_0 dX9_secondsTo_29 ?_
    refine lv_iload_n hx hb dX9_secondsTo_32 rfl (lv_at hl 2 rfl) ?_
    refine lv_iconst (v := 5) hx hb dX9_secondsTo_33 (by decide) ?_
    refine lv_iadd hx hb dX9_secondsTo_34 ?_
    obtain ⟨g6, h⟩ := mc_gd h
    refine ma_l16 hC K hP kr_1 g6 dX9_secondsTo_35 ?_
    refine lv_if_eq (tgt := 49) hx hb dX9_secondsTo_36 (by decide) (fun c7 => ?_) (fun c7 => ?_)
    · replace h := mc_it h c7
      refine lv_sipush (v := (-1005)) hx hb dX9_secondsTo_49 (by decide) ?_
      cases h
      exact mt_i hC hr hlk K hP hS dX9_secondsTo_52
    · replace h := mc_ie h c7
      refine lv_aload_n hx hb dX9_secondsTo_39 rfl (lv_at hl 0 rfl) ?_
      refine lv_iload_n hx hb dX9_secondsTo_40 rfl (lv_at hl 2 rfl) ?_
      obtain ⟨r8, e9, h⟩ := mc_ob_e h
      refine mg_Vi (As := [.int v2]) (rest := []) (ct_X9_counted l (w := w) (I := I) (R := R) e9) C K hP hS hl.1 kr_0 (by decide) rfl rfl ml_X9_45 wy_X9_counted wd_X9_counted rfl rfl rfl ⟨Nat.le_of_ble_eq_true rfl, Nat.le_of_ble_eq_true rfl⟩ (Nat.le_of_ble_eq_true rfl) ⟨Nat.zero_le _, Nat.zero_le _⟩ dX9_secondsTo_41 (fun H locs hP hS => ?_)
      refine lv_bipush (v := 6) hx hb dX9_secondsTo_44 (by decide) ?_
      refine lv_icmp_ne (tgt := 53) hx hb dX9_secondsTo_46 (by decide) (fun c10 => ?_) (fun c10 => ?_)
      · replace h := mc_ie h c10
        refine lv_aload_n hx hb dX9_secondsTo_53 rfl (lv_at hl 0 rfl) ?_
        refine lv_iload_n hx hb dX9_secondsTo_54 rfl (lv_at hl 2 rfl) ?_
        obtain ⟨I11, r12, e13, h⟩ := mc_ob2_e h
        refine mg_Vi (As := [.int v2]) (rest := []) (ct_X9_second l (w := w) (I := I) (R := R) e13) C K hP hS hl.1 kr_0 (by decide) rfl rfl ml_X9_78 wy_X9_second wd_X9_second rfl rfl rfl ⟨Nat.le_of_ble_eq_true rfl, Nat.le_of_ble_eq_true rfl⟩ (Nat.le_of_ble_eq_true rfl) ⟨Nat.zero_le _, Nat.zero_le _⟩ dX9_secondsTo_55 (fun H locs hP hS => ?_)
        refine lv_istore (i := 4) (lv' := [(4, .int r12), (0, .ref (w.2.2.1 0)), (1, .int v1), (2, .int v2), (3, .int v3)]) hx hb dX9_secondsTo_58 hl (by decide) rfl (fun ls hl => ?_)
        obtain ⟨x14, ex14, h⟩ := mc_bn_e h
        refine lv_iinc (v := x14) (lv' := [(3, .int x14), (4, .int r12), (0, .ref (w.2.2.1 0)), (1, .int v1), (2, .int v2)]) hx hb dX9_secondsTo_60 hl (k := 4) rfl (by rw [ex14]; rfl) (by decide) rfl (fun ls hl => ?_)
        refine lv_goto (tgt := 13) hx hb dX9_secondsTo_63 (by decide) ?_
        exact hk13 I11 v1 v2 x14 h  hP hS (lv_sub hl [2, 3, 4, 0] rfl)
      · replace h := mc_it h c10
        refine lv_sipush (v := (-1005)) hx hb dX9_secondsTo_49 (by decide) ?_
        cases h
        exact mt_i hC hr hlk K hP hS dX9_secondsTo_52
theorem bk_X9_secondsTo_L13 {p : Program} {l : Launch} {e : Env} {s : State} {m : MethodId} {args : Array Value} {below : List Frame} {meth : Method} {c : Code} (C : CallFix p m c cX9_secondsTo 5 s args mc_big RX9) (hr : meth.sig.returnType = (some .int)) (hlk : meth.locks = false) {w : mc_w} (K : mc_K mr_k 3 w s) {R : Nat → Nat → Option Nat} {F : Nat} {Iz : Nat → Nat → Int32} {rz : Int32} : ∀ n : Nat, ∀ (I : Nat → Nat → Int32) (v1 : Int32) (v2 : Int32) (v3 : Int32), mi_X9_secondsTo_L13 F n I v1 v2 v3 = some (Iz, rz) → ∀ {H : Heap} {locs : List Loc} {ls : Array Slot}, mc_P mr_k 3 w I R H → va_S (mc_A 3 w) s.heap H locs → lv_has ls 5 [(0, .ref (w.2.2.1 0)), (1, .int v1), (2, .int v2), (3, .int v3)] → W p l e ({ frames := 6, cells := 0, slots := 0, locals := 142 } : Room) s m args below meth c H locs 0 0 (MQ below (mc_Q (some (.int rz)) (mc_B mr_k 3 w Iz R) (mc_A 3 w)) args s 0 0 (mc_A 3 w)) (F0 m 13 ls []) := by
  intro n
  induction n with
  | zero =>
    intro I v1 v2 v3 h
    cases h
  | succ n ih =>
    intro I v1 v2 v3 h
    exact bk_X9_secondsTo_B13 C hr hlk K  ih I v1 v2 v3 h
set_option maxHeartbeats 4000000 in
set_option maxRecDepth 100000 in
theorem ct_X9_secondsTo (l : Launch) {w : mc_w} {I : Nat → Nat → Int32} {R : Nat → Nat → Option Nat} {F : Nat} {v1 : Int32} {Iz : Nat → Nat → Int32} {rz : Int32} (h : mi_X9_secondsTo F I v1 = some (Iz, rz)) : Met l yX9_secondsTo (Cond.code yX9_secondsTo cX9_secondsTo 5 (some .int) :: mc_big) ({ frames := 6, cells := 0, slots := 0, locals := 142 } : Room) (va_Pc [.ref (w.2.2.1 0), .int v1] (mc_B mr_k 3 w I R)) (mc_Q (some (.int rz)) (mc_B mr_k 3 w Iz R) (mc_A 3 w)) 0 0 (mc_A 3 w) := by
  refine Met.ofW (cc := cX9_secondsTo) (maxL := 5) (ret := (some .int)) (by decide) rfl ?_
  intro p e s m args below meth c s₁ B hml hv
  obtain ⟨rfl, hP, K⟩ := hv
  have hown : s.vm.findClass RX9 = some m.cls := findClass_of_methodNamed B.named
  have C : CallFix p m c cX9_secondsTo 5 s _ mc_big RX9 := ⟨B.exec, B.bytes, hml, hown, fun w hw => atoms_spec B.pre w (List.mem_cons_of_mem _ hw)⟩
  have hx := C.1
  have hb := C.2.1
  have hC := And.intro C.1 C.2.1
  have hr := B.returns
  have hlk := B.notSynchronized
  have hS : va_S (mc_A 3 w) s.heap s.heap [] := va_S.rf
  have hl := lv_entry ([.ref (w.2.2.1 0), .int v1]) (n := 5) (Nat.le_of_ble_eq_true rfl)
  rw [lg_entry_eq]
  generalize (lg_sl ([.ref (w.2.2.1 0), .int v1]) ++ List.replicate (5 - (lg_sl ([.ref (w.2.2.1 0), .int v1])).length) Slot.unset).toArray = ls at hl ⊢
  have hl : lv_has ls 5 [(0, .ref (w.2.2.1 0)), (1, .int v1)] := hl
  unfold mi_X9_secondsTo at h
  refine lv_aload_n hx hb dX9_secondsTo_0 rfl (lv_at hl 0 rfl) ?_
  refine lv_iconst (v := 0) hx hb dX9_secondsTo_1 (by decide) ?_
  refine lv_bipush (v := 7) hx hb dX9_secondsTo_2 (by decide) ?_
  obtain ⟨I1, e2, h⟩ := mc_ob_e h
  refine mg_Vv (As := [.int 0, .int 7]) (rest := []) (ct_X9_copies l (w := w) (I := I) (R := R) e2) C K hP hS hl.1 kr_0 (by decide) rfl rfl ml_X9_26 wy_X9_copies wd_X9_copies rfl rfl rfl ⟨Nat.le_of_ble_eq_true rfl, Nat.le_of_ble_eq_true rfl⟩ (Nat.le_of_ble_eq_true rfl) ⟨Nat.zero_le _, Nat.zero_le _⟩ dX9_secondsTo_4 (fun H locs hP hS => ?_)
  refine lv_sipush (v := 1239) hx hb dX9_secondsTo_7 (by decide) ?_
  refine lv_istore_n (i := 2) (lv' := [(2, .int 1239), (0, .ref (w.2.2.1 0)), (1, .int v1)]) hx hb dX9_secondsTo_10 rfl hl (by decide) rfl (fun ls hl => ?_)
  refine lv_iconst (v := 0) hx hb dX9_secondsTo_11 (by decide) ?_
  refine lv_istore_n (i := 3) (lv' := [(3, .int 0), (2, .int 1239), (0, .ref (w.2.2.1 0)), (1, .int v1)]) hx hb dX9_secondsTo_12 rfl hl (by decide) rfl (fun ls hl => ?_)
  exact bk_X9_secondsTo_L13 C hr hlk K  F I1 v1 1239 0 h  hP hS (lv_sub hl [2, 3, 1, 0] rfl)
set_option maxHeartbeats 4000000 in
set_option maxRecDepth 100000 in
theorem bk_X9_reason_J89 {p : Program} {l : Launch} {e : Env} {s : State} {m : MethodId} {args : Array Value} {below : List Frame} {meth : Method} {c : Code} (C : CallFix p m c cX9_reason 3 s args mc_big RX9) (hr : meth.sig.returnType = (some .int)) (hlk : meth.locks = false) {w : mc_w} (K : mc_K mr_k 3 w s) {R : Nat → Nat → Option Nat} {F : Nat} {Iz : Nat → Nat → Int32} {rz : Int32} : ∀ (I : Nat → Nat → Int32) (v1 : Int32) (s0 : Int32), mi_X9_reason_J89 F I v1 s0 = some (Iz, rz) → ∀ {H : Heap} {locs : List Loc} {ls : Array Slot}, mc_P mr_k 3 w I R H → va_S (mc_A 3 w) s.heap H locs → lv_has ls 3 [(0, .ref (w.2.2.1 0)), (1, .int v1)] → W p l e ({ frames := 7, cells := 0, slots := 0, locals := 166 } : Room) s m args below meth c H locs 0 0 (MQ below (mc_Q (some (.int rz)) (mc_B mr_k 3 w Iz R) (mc_A 3 w)) args s 0 0 (mc_A 3 w)) (F0 m 89 ls [.int s0]) := by
  intro I v1 s0 h  H locs ls hP hS hl
  have hx := C.1
  have hb := C.2.1
  have hC := And.intro C.1 C.2.1
  unfold mi_X9_reason_J89 at h
  refine lv_istore_n (i := 2) (lv' := [(2, .int s0), (0, .ref (w.2.2.1 0)), (1, .int v1)]) hx hb dX9_reason_89 rfl hl (by decide) rfl (fun ls hl => ?_)
  refine lv_iload_n hx hb dX9_reason_90 rfl (lv_at hl 0 rfl) ?_
  refine lv_if_ne (tgt := 98) hx hb dX9_reason_91 (by decide) (fun c18 => ?_) (fun c18 => ?_)
  · replace h := mc_ie h c18
    refine lv_aload_n hx hb dX9_reason_98 rfl (lv_at hl 1 rfl) ?_
    refine lv_iload_n hx hb dX9_reason_99 rfl (lv_at hl 2 rfl) ?_
    obtain ⟨I19, r20, e21, h⟩ := mc_ob2_e h
    refine mg_Vi (As := [.int v1]) (rest := []) (ct_X9_secondsTo l (w := w) (I := I) (R := R) e21) C K hP hS hl.1 kr_0 (by decide) rfl rfl ml_X9_178 wy_X9_secondsTo wd_X9_secondsTo rfl rfl rfl ⟨Nat.le_of_ble_eq_true rfl, Nat.le_of_ble_eq_true rfl⟩ (Nat.le_of_ble_eq_true rfl) ⟨Nat.zero_le _, Nat.zero_le _⟩ dX9_reason_100 (fun H locs hP hS => ?_)
    refine lv_sipush (v := (-1005)) hx hb dX9_reason_103 (by decide) ?_
    refine lv_icmp_ne (tgt := 113) hx hb dX9_reason_106 (by decide) (fun c22 => ?_) (fun c22 => ?_)
    · replace h := mc_ie h c22
      refine lv_iconst (v := 0) hx hb dX9_reason_113 (by decide) ?_
      cases h
      exact mt_i hC hr hlk K hP hS dX9_reason_114
    · replace h := mc_it h c22
      refine lv_iconst (v := 5) hx hb dX9_reason_109 (by decide) ?_
      refine lv_goto (tgt := 114) hx hb dX9_reason_110 (by decide) ?_
      cases h
      exact mt_i hC hr hlk K hP hS dX9_reason_114
  · replace h := mc_it h c18
    refine lv_iconst (v := 4) hx hb dX9_reason_94 (by decide) ?_
    refine lv_goto (tgt := 114) hx hb dX9_reason_95 (by decide) ?_
    cases h
    exact mt_i hC hr hlk K hP hS dX9_reason_114
set_option maxHeartbeats 4000000 in
set_option maxRecDepth 100000 in
theorem ct_X9_reason (l : Launch) {w : mc_w} {I : Nat → Nat → Int32} {R : Nat → Nat → Option Nat} {F : Nat} {v1 : Int32} {Iz : Nat → Nat → Int32} {rz : Int32} (h : mi_X9_reason F I v1 = some (Iz, rz)) : Met l yX9_reason (Cond.code yX9_reason cX9_reason 3 (some .int) :: mc_big) ({ frames := 7, cells := 0, slots := 0, locals := 166 } : Room) (va_Pc [.ref (w.2.2.1 0), .int v1] (mc_B mr_k 3 w I R)) (mc_Q (some (.int rz)) (mc_B mr_k 3 w Iz R) (mc_A 3 w)) 0 0 (mc_A 3 w) := by
  refine Met.ofW (cc := cX9_reason) (maxL := 3) (ret := (some .int)) (by decide) rfl ?_
  intro p e s m args below meth c s₁ B hml hv
  obtain ⟨rfl, hP, K⟩ := hv
  have hown : s.vm.findClass RX9 = some m.cls := findClass_of_methodNamed B.named
  have C : CallFix p m c cX9_reason 3 s _ mc_big RX9 := ⟨B.exec, B.bytes, hml, hown, fun w hw => atoms_spec B.pre w (List.mem_cons_of_mem _ hw)⟩
  have hx := C.1
  have hb := C.2.1
  have hC := And.intro C.1 C.2.1
  have hr := B.returns
  have hlk := B.notSynchronized
  have hS : va_S (mc_A 3 w) s.heap s.heap [] := va_S.rf
  have hl := lv_entry ([.ref (w.2.2.1 0), .int v1]) (n := 3) (Nat.le_of_ble_eq_true rfl)
  rw [lg_entry_eq]
  generalize (lg_sl ([.ref (w.2.2.1 0), .int v1]) ++ List.replicate (3 - (lg_sl ([.ref (w.2.2.1 0), .int v1])).length) Slot.unset).toArray = ls at hl ⊢
  have hl : lv_has ls 3 [(0, .ref (w.2.2.1 0)), (1, .int v1)] := hl
  unfold mi_X9_reason at h
  refine lv_aload_n hx hb dX9_reason_0 rfl (lv_at hl 0 rfl) ?_
  refine lv_iload_n hx hb dX9_reason_1 rfl (lv_at hl 1 rfl) ?_
  obtain ⟨r1, e2, h⟩ := mc_ob_e h
  refine mg_Vz (As := [.int v1]) (rest := []) (ct_X9_isBottle l (w := w) (I := I) (R := R) e2) C K hP hS hl.1 kr_0 (by decide) rfl rfl ml_X9_95 wy_X9_isBottle wd_X9_isBottle rfl rfl rfl ⟨Nat.le_of_ble_eq_true rfl, Nat.le_of_ble_eq_true rfl⟩ (Nat.le_of_ble_eq_true rfl) ⟨Nat.zero_le _, Nat.zero_le _⟩ dX9_reason_2 (fun H locs hP z3 hS => ?_)
  refine lv_if_ne (tgt := 12) hx hb dX9_reason_5 (by decide) (fun c4 => ?_) (fun c4 => ?_)
  · replace h := mc_ie h c4
    refine lv_aload_n hx hb dX9_reason_12 rfl (lv_at hl 0 rfl) ?_
    refine lv_iload_n hx hb dX9_reason_13 rfl (lv_at hl 1 rfl) ?_
    obtain ⟨r5, e6, h⟩ := mc_ob_e h
    refine mg_Vz (As := [.int v1]) (rest := []) (ct_X9_isShut l (w := w) (I := I) (R := R) e6) C K hP hS hl.1 kr_0 (by decide) rfl rfl ml_X9_168 wy_X9_isShut wd_X9_isShut rfl rfl rfl ⟨Nat.le_of_ble_eq_true rfl, Nat.le_of_ble_eq_true rfl⟩ (Nat.le_of_ble_eq_true rfl) ⟨Nat.zero_le _, Nat.zero_le _⟩ dX9_reason_14 (fun H locs hP z7 hS => ?_)
    refine lv_if_eq (tgt := 22) hx hb dX9_reason_17 (by decide) (fun c8 => ?_) (fun c8 => ?_)
    · replace h := mc_it h c8
      refine lv_aload_n hx hb dX9_reason_22 rfl (lv_at hl 0 rfl) ?_
      refine lv_iconst (v := 0) hx hb dX9_reason_23 (by decide) ?_
      refine lv_iload_n hx hb dX9_reason_24 rfl (lv_at hl 1 rfl) ?_
      obtain ⟨r9, e10, h⟩ := mc_ob_e h
      refine mg_Vz (As := [.int 0, .int v1]) (rest := []) (ct_X9_isInWater l (w := w) (I := I) (R := R) e10) C K hP hS hl.1 kr_0 (by decide) rfl rfl ml_X9_38 wy_X9_isInWater wd_X9_isInWater rfl rfl rfl ⟨Nat.le_of_ble_eq_true rfl, Nat.le_of_ble_eq_true rfl⟩ (Nat.le_of_ble_eq_true rfl) ⟨Nat.zero_le _, Nat.zero_le _⟩ dX9_reason_25 (fun H locs hP z11 hS => ?_)
      refine lv_if_ne (tgt := 33) hx hb dX9_reason_28 (by decide) (fun c12 => ?_) (fun c12 => ?_)
      · replace h := mc_ie h c12
        refine lv_aload_n hx hb dX9_reason_33 rfl (lv_at hl 0 rfl) ?_
        refine lv_iconst (v := 0) hx hb dX9_reason_34 (by decide) ?_
        obtain ⟨r13, e14, h⟩ := mc_ob_e h
        refine mg_Vi (As := [.int 0]) (rest := []) (ct_X9_counted l (w := w) (I := I) (R := R) e14) C K hP hS hl.1 kr_0 (by decide) rfl rfl ml_X9_45 wy_X9_counted wd_X9_counted rfl rfl rfl ⟨Nat.le_of_ble_eq_true rfl, Nat.le_of_ble_eq_true rfl⟩ (Nat.le_of_ble_eq_true rfl) ⟨Nat.zero_le _, Nat.zero_le _⟩ dX9_reason_35 (fun H locs hP hS => ?_)
        refine lv_bipush (v := 6) hx hb dX9_reason_38 (by decide) ?_
        refine lv_icmp_ne (tgt := 45) hx hb dX9_reason_40 (by decide) (fun c15 => ?_) (fun c15 => ?_)
        · replace h := mc_ie h c15
          refine lv_aload_n hx hb dX9_reason_45 rfl (lv_at hl 0 rfl) ?_
          refine mf_X9_7 C K hP kr_0 dX9_reason_46 ?_
          refine lv_iconst (v := 5) hx hb dX9_reason_49 (by decide) ?_
          obtain ⟨g16, h⟩ := mc_gd h
          refine ma_l16 hC K hP kr_1 g16 dX9_reason_50 ?_
          refine lv_if_le (tgt := 88) hx hb dX9_reason_51 (by decide) (fun c17 => ?_) (fun c17 => ?_)
          · replace h := mc_it h c17
            refine lv_iconst (v := 0) hx hb dX9_reason_88 (by decide) ?_
            exact bk_X9_reason_J89 C hr hlk K  I v1 0 h  hP hS (lv_sub hl [0, 1] rfl)
          · replace h := mc_ie h c17
            refine lv_aload_n hx hb dX9_reason_54 rfl (lv_at hl 0 rfl) ?_
            refine mf_X9_7 C K hP kr_0 dX9_reason_55 ?_
            refine lv_iconst (v := 0) hx hb dX9_reason_58 (by decide) ?_
            refine lv_aload_n hx hb dX9_reason_59 rfl (lv_at hl 0 rfl) ?_
            refine mf_X9_7 C K hP kr_0 dX9_reason_60 ?_
            refine lv_iconst (v := 5) hx hb dX9_reason_63 (by decide) ?_
            obtain ⟨g23, h⟩ := mc_gd h
            refine ma_l16 hC K hP kr_1 g23 dX9_reason_64 ?_
            refine lv_iconst (v := 1) hx hb dX9_reason_65 (by decide) ?_
            refine lv_isub hx hb dX9_reason_66 ?_
            refine mg_Si (As := [.int 0, .int ((I 1 (5 : Int32).toNatClampNeg) - 1)]) (rest := [.ref (w.2.2.1 1)]) (ct_X9_messengerAt l (w := w) (I := I) (R := R) rfl) C K hP hS hl.1 ml_X9_54 wy_X9_messengerAt wd_X9_messengerAt rfl rfl rfl ⟨Nat.le_of_ble_eq_true rfl, Nat.le_of_ble_eq_true rfl⟩ (Nat.le_of_ble_eq_true rfl) ⟨Nat.zero_le _, Nat.zero_le _⟩ dX9_reason_67 (fun H locs hP hS => ?_)
            obtain ⟨g25, h⟩ := mc_gd h
            refine ma_l16 hC K hP kr_1 g25 dX9_reason_70 ?_
            refine lv_aload_n hx hb dX9_reason_71 rfl (lv_at hl 0 rfl) ?_
            refine mf_X9_7 C K hP kr_0 dX9_reason_72 ?_
            refine lv_iconst (v := 0) hx hb dX9_reason_75 (by decide) ?_
            refine lv_iload_n hx hb dX9_reason_76 rfl (lv_at hl 1 rfl) ?_
            refine mg_Si (As := [.int 0, .int v1]) (rest := [.ref (w.2.2.1 1), .int (I 1 (mi_X9_messengerAt 0 ((I 1 (5 : Int32).toNatClampNeg) - 1)).toNatClampNeg)]) (ct_X9_bottleAt l (w := w) (I := I) (R := R) rfl) C K hP hS hl.1 ml_X9_34 wy_X9_bottleAt wd_X9_bottleAt rfl rfl rfl ⟨Nat.le_of_ble_eq_true rfl, Nat.le_of_ble_eq_true rfl⟩ (Nat.le_of_ble_eq_true rfl) ⟨Nat.zero_le _, Nat.zero_le _⟩ dX9_reason_77 (fun H locs hP hS => ?_)
            obtain ⟨g27, h⟩ := mc_gd h
            refine ma_l16 hC K hP kr_1 g27 dX9_reason_80 ?_
            refine lv_icmp_le (tgt := 88) hx hb dX9_reason_81 (by decide) (fun c28 => ?_) (fun c28 => ?_)
            · replace h := mc_it h c28
              refine lv_iconst (v := 0) hx hb dX9_reason_88 (by decide) ?_
              exact bk_X9_reason_J89 C hr hlk K  I v1 0 h  hP hS (lv_sub hl [0, 1] rfl)
            · replace h := mc_ie h c28
              refine lv_iconst (v := 1) hx hb dX9_reason_84 (by decide) ?_
              refine lv_goto (tgt := 89) hx hb dX9_reason_85 (by decide) ?_
              exact bk_X9_reason_J89 C hr hlk K  I v1 1 h  hP hS (lv_sub hl [0, 1] rfl)
        · replace h := mc_it h c15
          refine lv_iconst (v := 3) hx hb dX9_reason_43 (by decide) ?_
          cases h
          exact mt_i hC hr hlk K hP hS dX9_reason_44
      · replace h := mc_it h c12
        refine lv_iconst (v := 2) hx hb dX9_reason_31 (by decide) ?_
        cases h
        exact mt_i hC hr hlk K hP hS dX9_reason_32
    · replace h := mc_ie h c8
      refine lv_iconst (v := 1) hx hb dX9_reason_20 (by decide) ?_
      cases h
      exact mt_i hC hr hlk K hP hS dX9_reason_21
  · replace h := mc_it h c4
    refine lv_sipush (v := (-1001)) hx hb dX9_reason_8 (by decide) ?_
    cases h
    exact mt_i hC hr hlk K hP hS dX9_reason_11
set_option maxHeartbeats 4000000 in
set_option maxRecDepth 100000 in
theorem ct_X9_shutIn (l : Launch) {w : mc_w} {I : Nat → Nat → Int32} {R : Nat → Nat → Option Nat} {F : Nat} {v1 : Int32} {Iz : Nat → Nat → Int32} {rz : Int32} (h : mi_X9_shutIn F I v1 = some (Iz, rz)) : Met l yX9_shutIn (Cond.code yX9_shutIn cX9_shutIn 2 (some .int) :: mc_big) ({ frames := 7, cells := 0, slots := 0, locals := 166 } : Room) (va_Pc [.ref (w.2.2.1 0), .int v1] (mc_B mr_k 3 w I R)) (mc_Q (some (.int rz)) (mc_B mr_k 3 w Iz R) (mc_A 3 w)) 0 0 (mc_A 3 w) := by
  refine Met.ofW (cc := cX9_shutIn) (maxL := 2) (ret := (some .int)) (by decide) rfl ?_
  intro p e s m args below meth c s₁ B hml hv
  obtain ⟨rfl, hP, K⟩ := hv
  have hown : s.vm.findClass RX9 = some m.cls := findClass_of_methodNamed B.named
  have C : CallFix p m c cX9_shutIn 2 s _ mc_big RX9 := ⟨B.exec, B.bytes, hml, hown, fun w hw => atoms_spec B.pre w (List.mem_cons_of_mem _ hw)⟩
  have hx := C.1
  have hb := C.2.1
  have hC := And.intro C.1 C.2.1
  have hr := B.returns
  have hlk := B.notSynchronized
  have hS : va_S (mc_A 3 w) s.heap s.heap [] := va_S.rf
  have hl := lv_entry ([.ref (w.2.2.1 0), .int v1]) (n := 2) (Nat.le_of_ble_eq_true rfl)
  rw [lg_entry_eq]
  generalize (lg_sl ([.ref (w.2.2.1 0), .int v1]) ++ List.replicate (2 - (lg_sl ([.ref (w.2.2.1 0), .int v1])).length) Slot.unset).toArray = ls at hl ⊢
  have hl : lv_has ls 2 [(0, .ref (w.2.2.1 0)), (1, .int v1)] := hl
  unfold mi_X9_shutIn at h
  refine lv_aload_n hx hb dX9_shutIn_0 rfl (lv_at hl 0 rfl) ?_
  refine lv_iload_n hx hb dX9_shutIn_1 rfl (lv_at hl 1 rfl) ?_
  obtain ⟨r1, e2, h⟩ := mc_ob_e h
  refine mg_Vz (As := [.int v1]) (rest := []) (ct_X9_isBottle l (w := w) (I := I) (R := R) e2) C K hP hS hl.1 kr_0 (by decide) rfl rfl ml_X9_95 wy_X9_isBottle wd_X9_isBottle rfl rfl rfl ⟨Nat.le_of_ble_eq_true rfl, Nat.le_of_ble_eq_true rfl⟩ (Nat.le_of_ble_eq_true rfl) ⟨Nat.zero_le _, Nat.zero_le _⟩ dX9_shutIn_2 (fun H locs hP z3 hS => ?_)
  refine lv_if_ne (tgt := 14) hx hb dX9_shutIn_5 (by decide) (fun c4 => ?_) (fun c4 => ?_)
  · replace h := mc_ie h c4
    refine lv_aload_n hx hb dX9_shutIn_14 rfl (lv_at hl 0 rfl) ?_
    refine lv_iload_n hx hb dX9_shutIn_15 rfl (lv_at hl 1 rfl) ?_
    obtain ⟨r5, e6, h⟩ := mc_ob_e h
    refine mg_Vz (As := [.int v1]) (rest := []) (ct_X9_isShut l (w := w) (I := I) (R := R) e6) C K hP hS hl.1 kr_0 (by decide) rfl rfl ml_X9_168 wy_X9_isShut wd_X9_isShut rfl rfl rfl ⟨Nat.le_of_ble_eq_true rfl, Nat.le_of_ble_eq_true rfl⟩ (Nat.le_of_ble_eq_true rfl) ⟨Nat.zero_le _, Nat.zero_le _⟩ dX9_shutIn_16 (fun H locs hP z7 hS => ?_)
    refine lv_if_eq (tgt := 28) hx hb dX9_shutIn_19 (by decide) (fun c8 => ?_) (fun c8 => ?_)
    · replace h := mc_it h c8
      refine lv_aload_n hx hb dX9_shutIn_28 rfl (lv_at hl 0 rfl) ?_
      refine lv_iload_n hx hb dX9_shutIn_29 rfl (lv_at hl 1 rfl) ?_
      obtain ⟨I9, r10, e11, h⟩ := mc_ob2_e h
      refine mg_Vi (As := [.int v1]) (rest := []) (ct_X9_secondsTo l (w := w) (I := I) (R := R) e11) C K hP hS hl.1 kr_0 (by decide) rfl rfl ml_X9_178 wy_X9_secondsTo wd_X9_secondsTo rfl rfl rfl ⟨Nat.le_of_ble_eq_true rfl, Nat.le_of_ble_eq_true rfl⟩ (Nat.le_of_ble_eq_true rfl) ⟨Nat.zero_le _, Nat.zero_le _⟩ dX9_shutIn_30 (fun H locs hP hS => ?_)
      cases h
      exact mt_i hC hr hlk K hP hS dX9_shutIn_33
    · replace h := mc_ie h c8
      refine lv_sipush (v := (-1005)) hx hb dX9_shutIn_22 (by decide) ?_
      refine lv_goto (tgt := 33) hx hb dX9_shutIn_25 (by decide) ?_
      cases h
      exact mt_i hC hr hlk K hP hS dX9_shutIn_33
  · replace h := mc_it h c4
    refine lv_sipush (v := (-1001)) hx hb dX9_shutIn_8 (by decide) ?_
    refine lv_goto (tgt := 33) hx hb dX9_shutIn_11 (by decide) ?_
    cases h
    exact mt_i hC hr hlk K hP hS dX9_shutIn_33
set_option maxHeartbeats 4000000 in
set_option maxRecDepth 100000 in
theorem bk_X9_quietIn_B36 {p : Program} {l : Launch} {e : Env} {s : State} {m : MethodId} {args : Array Value} {below : List Frame} {meth : Method} {c : Code} (C : CallFix p m c cX9_quietIn 4 s args mc_big RX9) (hr : meth.sig.returnType = (some .int)) (hlk : meth.locks = false) {w : mc_w} (K : mc_K mr_k 3 w s) {R : Nat → Nat → Option Nat} {F : Nat} {Iz : Nat → Nat → Int32} {rz : Int32} {k36 : (Nat → Nat → Int32) → Int32 → Int32 → (Option ((Nat → Nat → Int32) × Int32))} (hk36 : ∀ (I : Nat → Nat → Int32) (v1 : Int32) (v2 : Int32), k36 I v1 v2 = some (Iz, rz) → ∀ {H : Heap} {locs : List Loc} {ls : Array Slot}, mc_P mr_k 3 w I R H → va_S (mc_A 3 w) s.heap H locs → lv_has ls 4 [(0, .ref (w.2.2.1 0)), (1, .int v1), (2, .int v2)] → W p l e ({ frames := 6, cells := 0, slots := 0, locals := 142 } : Room) s m args below meth c H locs 0 0 (MQ below (mc_Q (some (.int rz)) (mc_B mr_k 3 w Iz R) (mc_A 3 w)) args s 0 0 (mc_A 3 w)) (F0 m 36 ls [])) : ∀ (I : Nat → Nat → Int32) (v1 : Int32) (v2 : Int32), mi_X9_quietIn_B36 k36 F I v1 v2 = some (Iz, rz) → ∀ {H : Heap} {locs : List Loc} {ls : Array Slot}, mc_P mr_k 3 w I R H → va_S (mc_A 3 w) s.heap H locs → lv_has ls 4 [(0, .ref (w.2.2.1 0)), (1, .int v1), (2, .int v2)] → W p l e ({ frames := 6, cells := 0, slots := 0, locals := 142 } : Room) s m args below meth c H locs 0 0 (MQ below (mc_Q (some (.int rz)) (mc_B mr_k 3 w Iz R) (mc_A 3 w)) args s 0 0 (mc_A 3 w)) (F0 m 36 ls []) := by
  intro I v1 v2 h  H locs ls hP hS hl
  have hx := C.1
  have hb := C.2.1
  have hC := And.intro C.1 C.2.1
  unfold mi_X9_quietIn_B36 at h
  refine lv_aload_n hx hb dX9_quietIn_36 rfl (lv_at hl 0 rfl) ?_
  refine mf_X9_7 C K hP kr_0 dX9_quietIn_37 ?_
  refine lv_iload_n hx hb dX9_quietIn_40 rfl (lv_at hl 1 rfl) ?_
  refine lv_iconst (v := 5) hx hb dX9_quietIn_41 (by decide) ?_
  refine lv_iadd hx hb dX9_quietIn_42 ?_
  obtain ⟨g5, h⟩ := mc_gd h
  refine ma_l16 hC K hP kr_1 g5 dX9_quietIn_43 ?_
  refine lv_if_le (tgt := 59) hx hb dX9_quietIn_44 (by decide) (fun c6 => ?_) (fun c6 => ?_)
  · replace h := mc_it h c6
    refine lv_iload_n hx hb dX9_quietIn_59 rfl (lv_at hl 2 rfl) ?_
    cases h
    exact mt_i hC hr hlk K hP hS dX9_quietIn_60
  · replace h := mc_ie h c6
    refine lv_aload_n hx hb dX9_quietIn_47 rfl (lv_at hl 0 rfl) ?_
    refine lv_iload_n hx hb dX9_quietIn_48 rfl (lv_at hl 1 rfl) ?_
    obtain ⟨I7, r8, e9, h⟩ := mc_ob2_e h
    refine mg_Vi (As := [.int v1]) (rest := []) (ct_X9_second l (w := w) (I := I) (R := R) e9) C K hP hS hl.1 kr_0 (by decide) rfl rfl ml_X9_78 wy_X9_second wd_X9_second rfl rfl rfl ⟨Nat.le_of_ble_eq_true rfl, Nat.le_of_ble_eq_true rfl⟩ (Nat.le_of_ble_eq_true rfl) ⟨Nat.zero_le _, Nat.zero_le _⟩ dX9_quietIn_49 (fun H locs hP hS => ?_)
    refine lv_istore_n (i := 3) (lv' := [(3, .int r8), (0, .ref (w.2.2.1 0)), (1, .int v1), (2, .int v2)]) hx hb dX9_quietIn_52 rfl hl (by decide) rfl (fun ls hl => ?_)
    obtain ⟨x10, ex10, h⟩ := mc_bn_e h
    refine lv_iinc (v := x10) (lv' := [(2, .int x10), (3, .int r8), (0, .ref (w.2.2.1 0)), (1, .int v1)]) hx hb dX9_quietIn_53 hl (k := 3) rfl (by rw [ex10]; rfl) (by decide) rfl (fun ls hl => ?_)
    refine lv_goto (tgt := 36) hx hb dX9_quietIn_56 (by decide) ?_
    exact hk36 I7 v1 x10 h  hP hS (lv_sub hl [2, 3, 0] rfl)
theorem bk_X9_quietIn_L36 {p : Program} {l : Launch} {e : Env} {s : State} {m : MethodId} {args : Array Value} {below : List Frame} {meth : Method} {c : Code} (C : CallFix p m c cX9_quietIn 4 s args mc_big RX9) (hr : meth.sig.returnType = (some .int)) (hlk : meth.locks = false) {w : mc_w} (K : mc_K mr_k 3 w s) {R : Nat → Nat → Option Nat} {F : Nat} {Iz : Nat → Nat → Int32} {rz : Int32} : ∀ n : Nat, ∀ (I : Nat → Nat → Int32) (v1 : Int32) (v2 : Int32), mi_X9_quietIn_L36 F n I v1 v2 = some (Iz, rz) → ∀ {H : Heap} {locs : List Loc} {ls : Array Slot}, mc_P mr_k 3 w I R H → va_S (mc_A 3 w) s.heap H locs → lv_has ls 4 [(0, .ref (w.2.2.1 0)), (1, .int v1), (2, .int v2)] → W p l e ({ frames := 6, cells := 0, slots := 0, locals := 142 } : Room) s m args below meth c H locs 0 0 (MQ below (mc_Q (some (.int rz)) (mc_B mr_k 3 w Iz R) (mc_A 3 w)) args s 0 0 (mc_A 3 w)) (F0 m 36 ls []) := by
  intro n
  induction n with
  | zero =>
    intro I v1 v2 h
    cases h
  | succ n ih =>
    intro I v1 v2 h
    exact bk_X9_quietIn_B36 C hr hlk K  ih I v1 v2 h
set_option maxHeartbeats 4000000 in
set_option maxRecDepth 100000 in
theorem ct_X9_quietIn (l : Launch) {w : mc_w} {I : Nat → Nat → Int32} {R : Nat → Nat → Option Nat} {F : Nat} {Iz : Nat → Nat → Int32} {rz : Int32} (h : mi_X9_quietIn F I = some (Iz, rz)) : Met l yX9_quietIn (Cond.code yX9_quietIn cX9_quietIn 4 (some .int) :: mc_big) ({ frames := 6, cells := 0, slots := 0, locals := 142 } : Room) (va_Pc [.ref (w.2.2.1 0)] (mc_B mr_k 3 w I R)) (mc_Q (some (.int rz)) (mc_B mr_k 3 w Iz R) (mc_A 3 w)) 0 0 (mc_A 3 w) := by
  refine Met.ofW (cc := cX9_quietIn) (maxL := 4) (ret := (some .int)) (by decide) rfl ?_
  intro p e s m args below meth c s₁ B hml hv
  obtain ⟨rfl, hP, K⟩ := hv
  have hown : s.vm.findClass RX9 = some m.cls := findClass_of_methodNamed B.named
  have C : CallFix p m c cX9_quietIn 4 s _ mc_big RX9 := ⟨B.exec, B.bytes, hml, hown, fun w hw => atoms_spec B.pre w (List.mem_cons_of_mem _ hw)⟩
  have hx := C.1
  have hb := C.2.1
  have hC := And.intro C.1 C.2.1
  have hr := B.returns
  have hlk := B.notSynchronized
  have hS : va_S (mc_A 3 w) s.heap s.heap [] := va_S.rf
  have hl := lv_entry ([.ref (w.2.2.1 0)]) (n := 4) (Nat.le_of_ble_eq_true rfl)
  rw [lg_entry_eq]
  generalize (lg_sl ([.ref (w.2.2.1 0)]) ++ List.replicate (4 - (lg_sl ([.ref (w.2.2.1 0)])).length) Slot.unset).toArray = ls at hl ⊢
  have hl : lv_has ls 4 [(0, .ref (w.2.2.1 0))] := hl
  unfold mi_X9_quietIn at h
  refine lv_aload_n hx hb dX9_quietIn_0 rfl (lv_at hl 0 rfl) ?_
  refine mf_X9_7 C K hP kr_0 dX9_quietIn_1 ?_
  refine lv_iconst (v := 5) hx hb dX9_quietIn_4 (by decide) ?_
  obtain ⟨g1, h⟩ := mc_gd h
  refine ma_l16 hC K hP kr_1 g1 dX9_quietIn_5 ?_
  refine lv_if_le (tgt := 23) hx hb dX9_quietIn_6 (by decide) (fun c2 => ?_) (fun c2 => ?_)
  · replace h := mc_it h c2
    refine lv_aload_n hx hb dX9_quietIn_23 rfl (lv_at hl 0 rfl) ?_
    refine lv_iconst (v := 0) hx hb dX9_quietIn_24 (by decide) ?_
    refine lv_bipush (v := 7) hx hb dX9_quietIn_25 (by decide) ?_
    obtain ⟨I3, e4, h⟩ := mc_ob_e h
    refine mg_Vv (As := [.int 0, .int 7]) (rest := []) (ct_X9_copies l (w := w) (I := I) (R := R) e4) C K hP hS hl.1 kr_0 (by decide) rfl rfl ml_X9_26 wy_X9_copies wd_X9_copies rfl rfl rfl ⟨Nat.le_of_ble_eq_true rfl, Nat.le_of_ble_eq_true rfl⟩ (Nat.le_of_ble_eq_true rfl) ⟨Nat.zero_le _, Nat.zero_le _⟩ dX9_quietIn_27 (fun H locs hP hS => ?_)
    refine lv_sipush (v := 1239) hx hb dX9_quietIn_30 (by decide) ?_
    refine lv_istore_n (i := 1) (lv' := [(1, .int 1239), (0, .ref (w.2.2.1 0))]) hx hb dX9_quietIn_33 rfl hl (by decide) rfl (fun ls hl => ?_)
    refine lv_iconst (v := 0) hx hb dX9_quietIn_34 (by decide) ?_
    refine lv_istore_n (i := 2) (lv' := [(2, .int 0), (1, .int 1239), (0, .ref (w.2.2.1 0))]) hx hb dX9_quietIn_35 rfl hl (by decide) rfl (fun ls hl => ?_)
    exact bk_X9_quietIn_L36 C hr hlk K  F I3 1239 0 h  hP hS (lv_sub hl [2, 1, 0] rfl)
  · replace h := mc_ie h c2
    refine lv_aload_n hx hb dX9_quietIn_9 rfl (lv_at hl 0 rfl) ?_
    refine lv_iconst (v := 0) hx hb dX9_quietIn_10 (by decide) ?_
    obtain ⟨r11, e12, h⟩ := mc_ob_e h
    refine mg_Vi (As := [.int 0]) (rest := []) (ct_X9_counted l (w := w) (I := I) (R := R) e12) C K hP hS hl.1 kr_0 (by decide) rfl rfl ml_X9_45 wy_X9_counted wd_X9_counted rfl rfl rfl ⟨Nat.le_of_ble_eq_true rfl, Nat.le_of_ble_eq_true rfl⟩ (Nat.le_of_ble_eq_true rfl) ⟨Nat.zero_le _, Nat.zero_le _⟩ dX9_quietIn_11 (fun H locs hP hS => ?_)
    refine lv_bipush (v := 6) hx hb dX9_quietIn_14 (by decide) ?_
    refine lv_icmp_ne (tgt := 23) hx hb dX9_quietIn_16 (by decide) (fun c13 => ?_) (fun c13 => ?_)
    · replace h := mc_ie h c13
      refine lv_aload_n hx hb dX9_quietIn_23 rfl (lv_at hl 0 rfl) ?_
      refine lv_iconst (v := 0) hx hb dX9_quietIn_24 (by decide) ?_
      refine lv_bipush (v := 7) hx hb dX9_quietIn_25 (by decide) ?_
      obtain ⟨I14, e15, h⟩ := mc_ob_e h
      refine mg_Vv (As := [.int 0, .int 7]) (rest := []) (ct_X9_copies l (w := w) (I := I) (R := R) e15) C K hP hS hl.1 kr_0 (by decide) rfl rfl ml_X9_26 wy_X9_copies wd_X9_copies rfl rfl rfl ⟨Nat.le_of_ble_eq_true rfl, Nat.le_of_ble_eq_true rfl⟩ (Nat.le_of_ble_eq_true rfl) ⟨Nat.zero_le _, Nat.zero_le _⟩ dX9_quietIn_27 (fun H locs hP hS => ?_)
      refine lv_sipush (v := 1239) hx hb dX9_quietIn_30 (by decide) ?_
      refine lv_istore_n (i := 1) (lv' := [(1, .int 1239), (0, .ref (w.2.2.1 0))]) hx hb dX9_quietIn_33 rfl hl (by decide) rfl (fun ls hl => ?_)
      refine lv_iconst (v := 0) hx hb dX9_quietIn_34 (by decide) ?_
      refine lv_istore_n (i := 2) (lv' := [(2, .int 0), (1, .int 1239), (0, .ref (w.2.2.1 0))]) hx hb dX9_quietIn_35 rfl hl (by decide) rfl (fun ls hl => ?_)
      exact bk_X9_quietIn_L36 C hr hlk K  F I14 1239 0 h  hP hS (lv_sub hl [2, 1, 0] rfl)
    · replace h := mc_it h c13
      refine lv_sipush (v := (-1005)) hx hb dX9_quietIn_19 (by decide) ?_
      cases h
      exact mt_i hC hr hlk K hP hS dX9_quietIn_22
set_option maxHeartbeats 4000000 in
set_option maxRecDepth 100000 in
theorem bk_X9_worst_J52 {p : Program} {l : Launch} {e : Env} {s : State} {m : MethodId} {args : Array Value} {below : List Frame} {meth : Method} {c : Code} (C : CallFix p m c cX9_worst 5 s args mc_big RX9) (hr : meth.sig.returnType = (some .int)) (hlk : meth.locks = false) {w : mc_w} (K : mc_K mr_k 3 w s) {I : Nat → Nat → Int32} {R : Nat → Nat → Option Nat} {F : Nat} {rz : Int32} {k8 : (Nat → Nat → Int32) → Int32 → Int32 → Int32 → Option (Int32)} (hk8 : ∀ (v1 : Int32) (v2 : Int32) (v3 : Int32), k8 I v1 v2 v3 = some rz → ∀ {H : Heap} {locs : List Loc} {ls : Array Slot}, mc_P mr_k 3 w I R H → va_S (mc_A 3 w) s.heap H locs → lv_has ls 5 [(0, .ref (w.2.2.1 0)), (1, .int v1), (2, .int v2), (3, .int v3)] → W p l e ({ frames := 3, cells := 0, slots := 0, locals := 64 } : Room) s m args below meth c H locs 0 0 (MQ below (mc_Q (some (.int rz)) (mc_B mr_k 3 w I R) (mc_A 3 w)) args s 0 0 (mc_A 3 w)) (F0 m 8 ls [])) : ∀ (v2 : Int32) (v3 : Int32) (v4 : Int32) (s0 : Int32), mi_X9_worst_J52 k8 F I v2 v3 v4 s0 = some rz → ∀ {H : Heap} {locs : List Loc} {ls : Array Slot}, mc_P mr_k 3 w I R H → va_S (mc_A 3 w) s.heap H locs → lv_has ls 5 [(0, .ref (w.2.2.1 0)), (2, .int v2), (3, .int v3), (4, .int v4)] → W p l e ({ frames := 3, cells := 0, slots := 0, locals := 64 } : Room) s m args below meth c H locs 0 0 (MQ below (mc_Q (some (.int rz)) (mc_B mr_k 3 w I R) (mc_A 3 w)) args s 0 0 (mc_A 3 w)) (F0 m 52 ls [.int s0]) := by
  intro v2 v3 v4 s0 h  H locs ls hP hS hl
  have hx := C.1
  have hb := C.2.1
  have hC := And.intro C.1 C.2.1
  unfold mi_X9_worst_J52 at h
  refine lv_istore_n (i := 1) (lv' := [(1, .int s0), (0, .ref (w.2.2.1 0)), (2, .int v2), (3, .int v3), (4, .int v4)]) hx hb dX9_worst_52 rfl hl (by decide) rfl (fun ls hl => ?_)
  refine lv_iload hx hb dX9_worst_53 (lv_at hl 4 rfl) ?_
  refine lv_if_eq (tgt := 66) hx hb dX9_worst_55 (by decide) (fun c8 => ?_) (fun c8 => ?_)
  · replace h := mc_it h c8
    refine lv_iload_n hx hb dX9_worst_66 rfl (lv_at hl 2 rfl) ?_
    refine lv_istore_n (i := 2) (lv' := [(2, .int v2), (1, .int s0), (0, .ref (w.2.2.1 0)), (3, .int v3), (4, .int v4)]) hx hb dX9_worst_67 rfl hl (by decide) rfl (fun ls hl => ?_)
    obtain ⟨x9, ex9, h⟩ := mc_bn_e h
    refine lv_iinc (v := x9) (lv' := [(3, .int x9), (2, .int v2), (1, .int s0), (0, .ref (w.2.2.1 0)), (4, .int v4)]) hx hb dX9_worst_68 hl (k := 3) rfl (by rw [ex9]; rfl) (by decide) rfl (fun ls hl => ?_)
    refine lv_goto (tgt := 8) hx hb dX9_worst_71 (by decide) ?_
    exact hk8 s0 v2 x9 h  hP hS (lv_sub hl [3, 2, 1, 0] rfl)
  · replace h := mc_ie h c8
    refine lv_aload_n hx hb dX9_worst_58 rfl (lv_at hl 1 rfl) ?_
    refine lv_iload_n hx hb dX9_worst_59 rfl (lv_at hl 3 rfl) ?_
    obtain ⟨r10, e11, h⟩ := mc_ob_e h
    refine mg_Vi (As := [.int v3]) (rest := []) (ct_X9_difference l (w := w) (I := I) (R := R) e11) C K hP hS hl.1 kr_0 (by decide) rfl rfl ml_X9_165 wy_X9_difference wd_X9_difference rfl rfl rfl ⟨Nat.le_of_ble_eq_true rfl, Nat.le_of_ble_eq_true rfl⟩ (Nat.le_of_ble_eq_true rfl) ⟨Nat.zero_le _, Nat.zero_le _⟩ dX9_worst_60 (fun H locs hP hS => ?_)
    refine lv_goto (tgt := 67) hx hb dX9_worst_63 (by decide) ?_
    refine lv_istore_n (i := 2) (lv' := [(2, .int r10), (1, .int s0), (0, .ref (w.2.2.1 0)), (3, .int v3), (4, .int v4)]) hx hb dX9_worst_67 rfl hl (by decide) rfl (fun ls hl => ?_)
    obtain ⟨x12, ex12, h⟩ := mc_bn_e h
    refine lv_iinc (v := x12) (lv' := [(3, .int x12), (2, .int r10), (1, .int s0), (0, .ref (w.2.2.1 0)), (4, .int v4)]) hx hb dX9_worst_68 hl (k := 3) rfl (by rw [ex12]; rfl) (by decide) rfl (fun ls hl => ?_)
    refine lv_goto (tgt := 8) hx hb dX9_worst_71 (by decide) ?_
    exact hk8 s0 r10 x12 h  hP hS (lv_sub hl [3, 2, 1, 0] rfl)
set_option maxHeartbeats 4000000 in
set_option maxRecDepth 100000 in
theorem bk_X9_worst_J40 {p : Program} {l : Launch} {e : Env} {s : State} {m : MethodId} {args : Array Value} {below : List Frame} {meth : Method} {c : Code} (C : CallFix p m c cX9_worst 5 s args mc_big RX9) (hr : meth.sig.returnType = (some .int)) (hlk : meth.locks = false) {w : mc_w} (K : mc_K mr_k 3 w s) {I : Nat → Nat → Int32} {R : Nat → Nat → Option Nat} {F : Nat} {rz : Int32} {k8 : (Nat → Nat → Int32) → Int32 → Int32 → Int32 → Option (Int32)} (hk8 : ∀ (v1 : Int32) (v2 : Int32) (v3 : Int32), k8 I v1 v2 v3 = some rz → ∀ {H : Heap} {locs : List Loc} {ls : Array Slot}, mc_P mr_k 3 w I R H → va_S (mc_A 3 w) s.heap H locs → lv_has ls 5 [(0, .ref (w.2.2.1 0)), (1, .int v1), (2, .int v2), (3, .int v3)] → W p l e ({ frames := 3, cells := 0, slots := 0, locals := 64 } : Room) s m args below meth c H locs 0 0 (MQ below (mc_Q (some (.int rz)) (mc_B mr_k 3 w I R) (mc_A 3 w)) args s 0 0 (mc_A 3 w)) (F0 m 8 ls [])) : ∀ (v1 : Int32) (v2 : Int32) (v3 : Int32) (s0 : Int32), mi_X9_worst_J40 k8 F I v1 v2 v3 s0 = some rz → ∀ {H : Heap} {locs : List Loc} {ls : Array Slot}, mc_P mr_k 3 w I R H → va_S (mc_A 3 w) s.heap H locs → lv_has ls 5 [(0, .ref (w.2.2.1 0)), (1, .int v1), (2, .int v2), (3, .int v3)] → W p l e ({ frames := 3, cells := 0, slots := 0, locals := 64 } : Room) s m args below meth c H locs 0 0 (MQ below (mc_Q (some (.int rz)) (mc_B mr_k 3 w I R) (mc_A 3 w)) args s 0 0 (mc_A 3 w)) (F0 m 40 ls [.int s0]) := by
  intro v1 v2 v3 s0 h  H locs ls hP hS hl
  have hx := C.1
  have hb := C.2.1
  have hC := And.intro C.1 C.2.1
  unfold mi_X9_worst_J40 at h
  refine lv_istore (i := 4) (lv' := [(4, .int s0), (0, .ref (w.2.2.1 0)), (1, .int v1), (2, .int v2), (3, .int v3)]) hx hb dX9_worst_40 hl (by decide) rfl (fun ls hl => ?_)
  refine lv_iload hx hb dX9_worst_42 (lv_at hl 0 rfl) ?_
  refine lv_if_eq (tgt := 51) hx hb dX9_worst_44 (by decide) (fun c7 => ?_) (fun c7 => ?_)
  · replace h := mc_it h c7
    refine lv_iload_n hx hb dX9_worst_51 rfl (lv_at hl 2 rfl) ?_
    exact bk_X9_worst_J52 C hr hlk K hk8 v2 v3 s0 v1 h  hP hS (lv_sub hl [1, 3, 4, 0] rfl)
  · replace h := mc_ie h c7
    refine lv_iload_n hx hb dX9_worst_47 rfl (lv_at hl 4 rfl) ?_
    refine lv_goto (tgt := 52) hx hb dX9_worst_48 (by decide) ?_
    exact bk_X9_worst_J52 C hr hlk K hk8 v2 v3 s0 v3 h  hP hS (lv_sub hl [1, 3, 4, 0] rfl)
set_option maxHeartbeats 4000000 in
set_option maxRecDepth 100000 in
theorem bk_X9_worst_B8 {p : Program} {l : Launch} {e : Env} {s : State} {m : MethodId} {args : Array Value} {below : List Frame} {meth : Method} {c : Code} (C : CallFix p m c cX9_worst 5 s args mc_big RX9) (hr : meth.sig.returnType = (some .int)) (hlk : meth.locks = false) {w : mc_w} (K : mc_K mr_k 3 w s) {I : Nat → Nat → Int32} {R : Nat → Nat → Option Nat} {F : Nat} {rz : Int32} {k8 : (Nat → Nat → Int32) → Int32 → Int32 → Int32 → Option (Int32)} (hk8 : ∀ (v1 : Int32) (v2 : Int32) (v3 : Int32), k8 I v1 v2 v3 = some rz → ∀ {H : Heap} {locs : List Loc} {ls : Array Slot}, mc_P mr_k 3 w I R H → va_S (mc_A 3 w) s.heap H locs → lv_has ls 5 [(0, .ref (w.2.2.1 0)), (1, .int v1), (2, .int v2), (3, .int v3)] → W p l e ({ frames := 3, cells := 0, slots := 0, locals := 64 } : Room) s m args below meth c H locs 0 0 (MQ below (mc_Q (some (.int rz)) (mc_B mr_k 3 w I R) (mc_A 3 w)) args s 0 0 (mc_A 3 w)) (F0 m 8 ls [])) : ∀ (v1 : Int32) (v2 : Int32) (v3 : Int32), mi_X9_worst_B8 k8 F I v1 v2 v3 = some rz → ∀ {H : Heap} {locs : List Loc} {ls : Array Slot}, mc_P mr_k 3 w I R H → va_S (mc_A 3 w) s.heap H locs → lv_has ls 5 [(0, .ref (w.2.2.1 0)), (1, .int v1), (2, .int v2), (3, .int v3)] → W p l e ({ frames := 3, cells := 0, slots := 0, locals := 64 } : Room) s m args below meth c H locs 0 0 (MQ below (mc_Q (some (.int rz)) (mc_B mr_k 3 w I R) (mc_A 3 w)) args s 0 0 (mc_A 3 w)) (F0 m 8 ls []) := by
  intro v1 v2 v3 h  H locs ls hP hS hl
  have hx := C.1
  have hb := C.2.1
  have hC := And.intro C.1 C.2.1
  unfold mi_X9_worst_B8 at h
  refine lv_iload_n hx hb dX9_worst_8 rfl (lv_at hl 3 rfl) ?_
  refine lv_aload_n hx hb dX9_worst_9 rfl (lv_at hl 0 rfl) ?_
  refine mf_X9_7 C K hP kr_0 dX9_worst_10 ?_
  refine lv_iconst (v := 4) hx hb dX9_worst_13 (by decide) ?_
  obtain ⟨g1, h⟩ := mc_gd h
  refine ma_l16 hC K hP kr_1 g1 dX9_worst_14 ?_
  refine lv_icmp_ge (tgt := 74) hx hb dX9_worst_15 (by decide) (fun c2 => ?_) (fun c2 => ?_)
  · replace h := mc_it h c2
    refine lv_iload_n hx hb dX9_worst_74 rfl (lv_at hl 1 rfl) ?_
    cases h
    exact mt_i hC hr hlk K hP hS dX9_worst_75
  · replace h := mc_ie h c2
    refine lv_aload_n hx hb dX9_worst_18 rfl (lv_at hl 0 rfl) ?_
    refine lv_iload_n hx hb dX9_worst_19 rfl (lv_at hl 3 rfl) ?_
    obtain ⟨r3, e4, h⟩ := mc_ob_e h
    refine mg_Vz (As := [.int v3]) (rest := []) (ct_X9_isShut l (w := w) (I := I) (R := R) e4) C K hP hS hl.1 kr_0 (by decide) rfl rfl ml_X9_168 wy_X9_isShut wd_X9_isShut rfl rfl rfl ⟨Nat.le_of_ble_eq_true rfl, Nat.le_of_ble_eq_true rfl⟩ (Nat.le_of_ble_eq_true rfl) ⟨Nat.zero_le _, Nat.zero_le _⟩ dX9_worst_20 (fun H locs hP z5 hS => ?_)
    refine lv_if_eq (tgt := 39) hx hb dX9_worst_23 (by decide) (fun c6 => ?_) (fun c6 => ?_)
    · replace h := mc_it h c6
      refine lv_iconst (v := 0) hx hb dX9_worst_39 (by decide) ?_
      exact bk_X9_worst_J40 C hr hlk K hk8 v1 v2 v3 0 h  hP hS (lv_sub hl [0, 1, 2, 3] rfl)
    · replace h := mc_ie h c6
      refine lv_aload_n hx hb dX9_worst_26 rfl (lv_at hl 0 rfl) ?_
      refine lv_iload_n hx hb dX9_worst_27 rfl (lv_at hl 3 rfl) ?_
      obtain ⟨r13, e14, h⟩ := mc_ob_e h
      refine mg_Vi (As := [.int v3]) (rest := []) (ct_X9_difference l (w := w) (I := I) (R := R) e14) C K hP hS hl.1 kr_0 (by decide) rfl rfl ml_X9_165 wy_X9_difference wd_X9_difference rfl rfl rfl ⟨Nat.le_of_ble_eq_true rfl, Nat.le_of_ble_eq_true rfl⟩ (Nat.le_of_ble_eq_true rfl) ⟨Nat.zero_le _, Nat.zero_le _⟩ dX9_worst_28 (fun H locs hP hS => ?_)
      refine lv_iload_n hx hb dX9_worst_31 rfl (lv_at hl 2 rfl) ?_
      refine lv_icmp_le (tgt := 39) hx hb dX9_worst_32 (by decide) (fun c15 => ?_) (fun c15 => ?_)
      · replace h := mc_it h c15
        refine lv_iconst (v := 0) hx hb dX9_worst_39 (by decide) ?_
        exact bk_X9_worst_J40 C hr hlk K hk8 v1 v2 v3 0 h  hP hS (lv_sub hl [0, 1, 2, 3] rfl)
      · replace h := mc_ie h c15
        refine lv_iconst (v := 1) hx hb dX9_worst_35 (by decide) ?_
        refine lv_goto (tgt := 40) hx hb dX9_worst_36 (by decide) ?_
        exact bk_X9_worst_J40 C hr hlk K hk8 v1 v2 v3 1 h  hP hS (lv_sub hl [0, 1, 2, 3] rfl)
theorem bk_X9_worst_L8 {p : Program} {l : Launch} {e : Env} {s : State} {m : MethodId} {args : Array Value} {below : List Frame} {meth : Method} {c : Code} (C : CallFix p m c cX9_worst 5 s args mc_big RX9) (hr : meth.sig.returnType = (some .int)) (hlk : meth.locks = false) {w : mc_w} (K : mc_K mr_k 3 w s) {I : Nat → Nat → Int32} {R : Nat → Nat → Option Nat} {F : Nat} {rz : Int32} : ∀ n : Nat, ∀ (v1 : Int32) (v2 : Int32) (v3 : Int32), mi_X9_worst_L8 F n I v1 v2 v3 = some rz → ∀ {H : Heap} {locs : List Loc} {ls : Array Slot}, mc_P mr_k 3 w I R H → va_S (mc_A 3 w) s.heap H locs → lv_has ls 5 [(0, .ref (w.2.2.1 0)), (1, .int v1), (2, .int v2), (3, .int v3)] → W p l e ({ frames := 3, cells := 0, slots := 0, locals := 64 } : Room) s m args below meth c H locs 0 0 (MQ below (mc_Q (some (.int rz)) (mc_B mr_k 3 w I R) (mc_A 3 w)) args s 0 0 (mc_A 3 w)) (F0 m 8 ls []) := by
  intro n
  induction n with
  | zero =>
    intro v1 v2 v3 h
    cases h
  | succ n ih =>
    intro v1 v2 v3 h
    exact bk_X9_worst_B8 C hr hlk K  ih v1 v2 v3 h
set_option maxHeartbeats 4000000 in
set_option maxRecDepth 100000 in
theorem ct_X9_worst (l : Launch) {w : mc_w} {I : Nat → Nat → Int32} {R : Nat → Nat → Option Nat} {F : Nat} {rz : Int32} (h : mi_X9_worst F I = some rz) : Met l yX9_worst (Cond.code yX9_worst cX9_worst 5 (some .int) :: mc_big) ({ frames := 3, cells := 0, slots := 0, locals := 64 } : Room) (va_Pc [.ref (w.2.2.1 0)] (mc_B mr_k 3 w I R)) (mc_Q (some (.int rz)) (mc_B mr_k 3 w I R) (mc_A 3 w)) 0 0 (mc_A 3 w) := by
  refine Met.ofW (cc := cX9_worst) (maxL := 5) (ret := (some .int)) (by decide) rfl ?_
  intro p e s m args below meth c s₁ B hml hv
  obtain ⟨rfl, hP, K⟩ := hv
  have hown : s.vm.findClass RX9 = some m.cls := findClass_of_methodNamed B.named
  have C : CallFix p m c cX9_worst 5 s _ mc_big RX9 := ⟨B.exec, B.bytes, hml, hown, fun w hw => atoms_spec B.pre w (List.mem_cons_of_mem _ hw)⟩
  have hx := C.1
  have hb := C.2.1
  have hC := And.intro C.1 C.2.1
  have hr := B.returns
  have hlk := B.notSynchronized
  have hS : va_S (mc_A 3 w) s.heap s.heap [] := va_S.rf
  have hl := lv_entry ([.ref (w.2.2.1 0)]) (n := 5) (Nat.le_of_ble_eq_true rfl)
  rw [lg_entry_eq]
  generalize (lg_sl ([.ref (w.2.2.1 0)]) ++ List.replicate (5 - (lg_sl ([.ref (w.2.2.1 0)])).length) Slot.unset).toArray = ls at hl ⊢
  have hl : lv_has ls 5 [(0, .ref (w.2.2.1 0))] := hl
  unfold mi_X9_worst at h
  refine lv_sipush (v := (-1005)) hx hb dX9_worst_0 (by decide) ?_
  refine lv_istore_n (i := 1) (lv' := [(1, .int (-1005)), (0, .ref (w.2.2.1 0))]) hx hb dX9_worst_3 rfl hl (by decide) rfl (fun ls hl => ?_)
  refine lv_iconst (v := (-1)) hx hb dX9_worst_4 (by decide) ?_
  refine lv_istore_n (i := 2) (lv' := [(2, .int (-1)), (1, .int (-1005)), (0, .ref (w.2.2.1 0))]) hx hb dX9_worst_5 rfl hl (by decide) rfl (fun ls hl => ?_)
  refine lv_iconst (v := 0) hx hb dX9_worst_6 (by decide) ?_
  refine lv_istore_n (i := 3) (lv' := [(3, .int 0), (2, .int (-1)), (1, .int (-1005)), (0, .ref (w.2.2.1 0))]) hx hb dX9_worst_7 rfl hl (by decide) rfl (fun ls hl => ?_)
  exact bk_X9_worst_L8 C hr hlk K  F (-1005) (-1) 0 h  hP hS (lv_sub hl [3, 2, 1, 0] rfl)
set_option maxHeartbeats 4000000 in
set_option maxRecDepth 100000 in
theorem bk_X9_many_B4 {p : Program} {l : Launch} {e : Env} {s : State} {m : MethodId} {args : Array Value} {below : List Frame} {meth : Method} {c : Code} (C : CallFix p m c cX9_many 4 s args mc_big RX9) (hr : meth.sig.returnType = (some .int)) (hlk : meth.locks = false) {w : mc_w} (K : mc_K mr_k 3 w s) {I : Nat → Nat → Int32} {R : Nat → Nat → Option Nat} {F : Nat} {rz : Int32} {k4 : (Nat → Nat → Int32) → Int32 → Int32 → Int32 → Option (Int32)} (hk4 : ∀ (v1 : Int32) (v2 : Int32) (v3 : Int32), k4 I v1 v2 v3 = some rz → ∀ {H : Heap} {locs : List Loc} {ls : Array Slot}, mc_P mr_k 3 w I R H → va_S (mc_A 3 w) s.heap H locs → lv_has ls 4 [(0, .ref (w.2.2.1 0)), (1, .int v1), (2, .int v2), (3, .int v3)] → W p l e ({ frames := 3, cells := 0, slots := 0, locals := 64 } : Room) s m args below meth c H locs 0 0 (MQ below (mc_Q (some (.int rz)) (mc_B mr_k 3 w I R) (mc_A 3 w)) args s 0 0 (mc_A 3 w)) (F0 m 4 ls [])) : ∀ (v1 : Int32) (v2 : Int32) (v3 : Int32), mi_X9_many_B4 k4 F I v1 v2 v3 = some rz → ∀ {H : Heap} {locs : List Loc} {ls : Array Slot}, mc_P mr_k 3 w I R H → va_S (mc_A 3 w) s.heap H locs → lv_has ls 4 [(0, .ref (w.2.2.1 0)), (1, .int v1), (2, .int v2), (3, .int v3)] → W p l e ({ frames := 3, cells := 0, slots := 0, locals := 64 } : Room) s m args below meth c H locs 0 0 (MQ below (mc_Q (some (.int rz)) (mc_B mr_k 3 w I R) (mc_A 3 w)) args s 0 0 (mc_A 3 w)) (F0 m 4 ls []) := by
  intro v1 v2 v3 h  H locs ls hP hS hl
  have hx := C.1
  have hb := C.2.1
  have hC := And.intro C.1 C.2.1
  unfold mi_X9_many_B4 at h
  refine lv_iload_n hx hb dX9_many_4 rfl (lv_at hl 3 rfl) ?_
  refine lv_aload_n hx hb dX9_many_5 rfl (lv_at hl 0 rfl) ?_
  refine mf_X9_7 C K hP kr_0 dX9_many_6 ?_
  refine lv_iconst (v := 4) hx hb dX9_many_9 (by decide) ?_
  obtain ⟨g1, h⟩ := mc_gd h
  refine ma_l16 hC K hP kr_1 g1 dX9_many_10 ?_
  refine lv_icmp_ge (tgt := 72) hx hb dX9_many_11 (by decide) (fun c2 => ?_) (fun c2 => ?_)
  · replace h := mc_it h c2
    refine lv_iload_n hx hb dX9_many_72 rfl (lv_at hl 2 rfl) ?_
    cases h
    exact mt_i hC hr hlk K hP hS dX9_many_73
  · replace h := mc_ie h c2
    refine lv_iload_n hx hb dX9_many_14 rfl (lv_at hl 2 rfl) ?_
    refine lv_iload_n hx hb dX9_many_15 rfl (lv_at hl 1 rfl) ?_
    refine lv_if_ne (tgt := 28) hx hb dX9_many_16 (by decide) (fun c3 => ?_) (fun c3 => ?_)
    · replace h := mc_ie h c3
      refine lv_aload_n hx hb dX9_many_28 rfl (lv_at hl 0 rfl) ?_
      refine lv_iload_n hx hb dX9_many_29 rfl (lv_at hl 3 rfl) ?_
      obtain ⟨r4, e5, h⟩ := mc_ob_e h
      refine mg_Vz (As := [.int v3]) (rest := [.int v2]) (ct_X9_isShut l (w := w) (I := I) (R := R) e5) C K hP hS hl.1 kr_0 (by decide) rfl rfl ml_X9_168 wy_X9_isShut wd_X9_isShut rfl rfl rfl ⟨Nat.le_of_ble_eq_true rfl, Nat.le_of_ble_eq_true rfl⟩ (Nat.le_of_ble_eq_true rfl) ⟨Nat.zero_le _, Nat.zero_le _⟩ dX9_many_30 (fun H locs hP z6 hS => ?_)
      refine lv_if_eq (tgt := 60) hx hb dX9_many_33 (by decide) (fun c7 => ?_) (fun c7 => ?_)
      · replace h := mc_it h c7
        refine lv_iconst (v := 0) hx hb dX9_many_60 (by decide) ?_
        refine mg_Si (As := [.int 0]) (rest := [.int v2]) (ct_X9_flag l (w := w) (I := I) (R := R) rfl) C K hP hS hl.1 ml_X9_74 wy_X9_flag wd_X9_flag rfl rfl rfl ⟨Nat.le_of_ble_eq_true rfl, Nat.le_of_ble_eq_true rfl⟩ (Nat.le_of_ble_eq_true rfl) ⟨Nat.zero_le _, Nat.zero_le _⟩ dX9_many_61 (fun H locs hP hS => ?_)
        refine lv_iadd hx hb dX9_many_64 ?_
        obtain ⟨x9, ex9, h⟩ := mc_bn_e h
        refine mv_top ex9 ?_
        refine lv_istore_n (i := 2) (lv' := [(2, .int x9), (0, .ref (w.2.2.1 0)), (1, .int v1), (3, .int v3)]) hx hb dX9_many_65 rfl hl (by decide) rfl (fun ls hl => ?_)
        obtain ⟨x10, ex10, h⟩ := mc_bn_e h
        refine lv_iinc (v := x10) (lv' := [(3, .int x10), (2, .int x9), (0, .ref (w.2.2.1 0)), (1, .int v1)]) hx hb dX9_many_66 hl (k := 3) rfl (by rw [ex10]; rfl) (by decide) rfl (fun ls hl => ?_)
        refine lv_goto (tgt := 4) hx hb dX9_many_69 (by decide) ?_
        exact hk4 v1 x9 x10 h  hP hS (lv_sub hl [2, 3, 1, 0] rfl)
      · replace h := mc_ie h c7
        refine lv_iload_n hx hb dX9_many_36 rfl (lv_at hl 1 rfl) ?_
        refine lv_iconst (v := 1) hx hb dX9_many_37 (by decide) ?_
        refine lv_icmp_eq (tgt := 56) hx hb dX9_many_38 (by decide) (fun c11 => ?_) (fun c11 => ?_)
        · replace h := mc_it h c11
          refine lv_iconst (v := 1) hx hb dX9_many_56 (by decide) ?_
          refine lv_goto (tgt := 61) hx hb dX9_many_57 (by decide) ?_
          refine mg_Si (As := [.int 1]) (rest := [.int v2]) (ct_X9_flag l (w := w) (I := I) (R := R) rfl) C K hP hS hl.1 ml_X9_74 wy_X9_flag wd_X9_flag rfl rfl rfl ⟨Nat.le_of_ble_eq_true rfl, Nat.le_of_ble_eq_true rfl⟩ (Nat.le_of_ble_eq_true rfl) ⟨Nat.zero_le _, Nat.zero_le _⟩ dX9_many_61 (fun H locs hP hS => ?_)
          refine lv_iadd hx hb dX9_many_64 ?_
          obtain ⟨x13, ex13, h⟩ := mc_bn_e h
          refine mv_top ex13 ?_
          refine lv_istore_n (i := 2) (lv' := [(2, .int x13), (0, .ref (w.2.2.1 0)), (1, .int v1), (3, .int v3)]) hx hb dX9_many_65 rfl hl (by decide) rfl (fun ls hl => ?_)
          obtain ⟨x14, ex14, h⟩ := mc_bn_e h
          refine lv_iinc (v := x14) (lv' := [(3, .int x14), (2, .int x13), (0, .ref (w.2.2.1 0)), (1, .int v1)]) hx hb dX9_many_66 hl (k := 3) rfl (by rw [ex14]; rfl) (by decide) rfl (fun ls hl => ?_)
          refine lv_goto (tgt := 4) hx hb dX9_many_69 (by decide) ?_
          exact hk4 v1 x13 x14 h  hP hS (lv_sub hl [2, 3, 1, 0] rfl)
        · replace h := mc_ie h c11
          refine lv_aload_n hx hb dX9_many_41 rfl (lv_at hl 0 rfl) ?_
          refine lv_iload_n hx hb dX9_many_42 rfl (lv_at hl 3 rfl) ?_
          obtain ⟨r15, e16, h⟩ := mc_ob_e h
          refine mg_Vi (As := [.int v3]) (rest := [.int v2]) (ct_X9_difference l (w := w) (I := I) (R := R) e16) C K hP hS hl.1 kr_0 (by decide) rfl rfl ml_X9_165 wy_X9_difference wd_X9_difference rfl rfl rfl ⟨Nat.le_of_ble_eq_true rfl, Nat.le_of_ble_eq_true rfl⟩ (Nat.le_of_ble_eq_true rfl) ⟨Nat.zero_le _, Nat.zero_le _⟩ dX9_many_43 (fun H locs hP hS => ?_)
          refine lv_aload_n hx hb dX9_many_46 rfl (lv_at hl 0 rfl) ?_
          refine mf_X9_7 C K hP kr_0 dX9_many_47 ?_
          refine lv_bipush (v := 11) hx hb dX9_many_50 (by decide) ?_
          obtain ⟨g17, h⟩ := mc_gd h
          refine ma_l16 hC K hP kr_1 g17 dX9_many_52 ?_
          refine lv_icmp_le (tgt := 60) hx hb dX9_many_53 (by decide) (fun c18 => ?_) (fun c18 => ?_)
          · replace h := mc_it h c18
            refine lv_iconst (v := 0) hx hb dX9_many_60 (by decide) ?_
            refine mg_Si (As := [.int 0]) (rest := [.int v2]) (ct_X9_flag l (w := w) (I := I) (R := R) rfl) C K hP hS hl.1 ml_X9_74 wy_X9_flag wd_X9_flag rfl rfl rfl ⟨Nat.le_of_ble_eq_true rfl, Nat.le_of_ble_eq_true rfl⟩ (Nat.le_of_ble_eq_true rfl) ⟨Nat.zero_le _, Nat.zero_le _⟩ dX9_many_61 (fun H locs hP hS => ?_)
            refine lv_iadd hx hb dX9_many_64 ?_
            obtain ⟨x20, ex20, h⟩ := mc_bn_e h
            refine mv_top ex20 ?_
            refine lv_istore_n (i := 2) (lv' := [(2, .int x20), (0, .ref (w.2.2.1 0)), (1, .int v1), (3, .int v3)]) hx hb dX9_many_65 rfl hl (by decide) rfl (fun ls hl => ?_)
            obtain ⟨x21, ex21, h⟩ := mc_bn_e h
            refine lv_iinc (v := x21) (lv' := [(3, .int x21), (2, .int x20), (0, .ref (w.2.2.1 0)), (1, .int v1)]) hx hb dX9_many_66 hl (k := 3) rfl (by rw [ex21]; rfl) (by decide) rfl (fun ls hl => ?_)
            refine lv_goto (tgt := 4) hx hb dX9_many_69 (by decide) ?_
            exact hk4 v1 x20 x21 h  hP hS (lv_sub hl [2, 3, 1, 0] rfl)
          · replace h := mc_ie h c18
            refine lv_iconst (v := 1) hx hb dX9_many_56 (by decide) ?_
            refine lv_goto (tgt := 61) hx hb dX9_many_57 (by decide) ?_
            refine mg_Si (As := [.int 1]) (rest := [.int v2]) (ct_X9_flag l (w := w) (I := I) (R := R) rfl) C K hP hS hl.1 ml_X9_74 wy_X9_flag wd_X9_flag rfl rfl rfl ⟨Nat.le_of_ble_eq_true rfl, Nat.le_of_ble_eq_true rfl⟩ (Nat.le_of_ble_eq_true rfl) ⟨Nat.zero_le _, Nat.zero_le _⟩ dX9_many_61 (fun H locs hP hS => ?_)
            refine lv_iadd hx hb dX9_many_64 ?_
            obtain ⟨x23, ex23, h⟩ := mc_bn_e h
            refine mv_top ex23 ?_
            refine lv_istore_n (i := 2) (lv' := [(2, .int x23), (0, .ref (w.2.2.1 0)), (1, .int v1), (3, .int v3)]) hx hb dX9_many_65 rfl hl (by decide) rfl (fun ls hl => ?_)
            obtain ⟨x24, ex24, h⟩ := mc_bn_e h
            refine lv_iinc (v := x24) (lv' := [(3, .int x24), (2, .int x23), (0, .ref (w.2.2.1 0)), (1, .int v1)]) hx hb dX9_many_66 hl (k := 3) rfl (by rw [ex24]; rfl) (by decide) rfl (fun ls hl => ?_)
            refine lv_goto (tgt := 4) hx hb dX9_many_69 (by decide) ?_
            exact hk4 v1 x23 x24 h  hP hS (lv_sub hl [2, 3, 1, 0] rfl)
    · replace h := mc_it h c3
      refine lv_aload_n hx hb dX9_many_19 rfl (lv_at hl 0 rfl) ?_
      refine lv_iconst (v := 0) hx hb dX9_many_20 (by decide) ?_
      refine lv_iload_n hx hb dX9_many_21 rfl (lv_at hl 3 rfl) ?_
      obtain ⟨r25, e26, h⟩ := mc_ob_e h
      refine mg_Vz (As := [.int 0, .int v3]) (rest := [.int v2]) (ct_X9_isInWater l (w := w) (I := I) (R := R) e26) C K hP hS hl.1 kr_0 (by decide) rfl rfl ml_X9_38 wy_X9_isInWater wd_X9_isInWater rfl rfl rfl ⟨Nat.le_of_ble_eq_true rfl, Nat.le_of_ble_eq_true rfl⟩ (Nat.le_of_ble_eq_true rfl) ⟨Nat.zero_le _, Nat.zero_le _⟩ dX9_many_22 (fun H locs hP z27 hS => ?_)
      refine lv_goto (tgt := 61) hx hb dX9_many_25 (by decide) ?_
      refine mg_Si (As := [.int r25]) (rest := [.int v2]) (ct_X9_flag l (w := w) (I := I) (R := R) rfl) C K hP hS hl.1 ml_X9_74 wy_X9_flag wd_X9_flag rfl rfl rfl ⟨Nat.le_of_ble_eq_true rfl, Nat.le_of_ble_eq_true rfl⟩ (Nat.le_of_ble_eq_true rfl) ⟨Nat.zero_le _, Nat.zero_le _⟩ dX9_many_61 (fun H locs hP hS => ?_)
      refine lv_iadd hx hb dX9_many_64 ?_
      obtain ⟨x29, ex29, h⟩ := mc_bn_e h
      refine mv_top ex29 ?_
      refine lv_istore_n (i := 2) (lv' := [(2, .int x29), (0, .ref (w.2.2.1 0)), (1, .int v1), (3, .int v3)]) hx hb dX9_many_65 rfl hl (by decide) rfl (fun ls hl => ?_)
      obtain ⟨x30, ex30, h⟩ := mc_bn_e h
      refine lv_iinc (v := x30) (lv' := [(3, .int x30), (2, .int x29), (0, .ref (w.2.2.1 0)), (1, .int v1)]) hx hb dX9_many_66 hl (k := 3) rfl (by rw [ex30]; rfl) (by decide) rfl (fun ls hl => ?_)
      refine lv_goto (tgt := 4) hx hb dX9_many_69 (by decide) ?_
      exact hk4 v1 x29 x30 h  hP hS (lv_sub hl [2, 3, 1, 0] rfl)
theorem bk_X9_many_L4 {p : Program} {l : Launch} {e : Env} {s : State} {m : MethodId} {args : Array Value} {below : List Frame} {meth : Method} {c : Code} (C : CallFix p m c cX9_many 4 s args mc_big RX9) (hr : meth.sig.returnType = (some .int)) (hlk : meth.locks = false) {w : mc_w} (K : mc_K mr_k 3 w s) {I : Nat → Nat → Int32} {R : Nat → Nat → Option Nat} {F : Nat} {rz : Int32} : ∀ n : Nat, ∀ (v1 : Int32) (v2 : Int32) (v3 : Int32), mi_X9_many_L4 F n I v1 v2 v3 = some rz → ∀ {H : Heap} {locs : List Loc} {ls : Array Slot}, mc_P mr_k 3 w I R H → va_S (mc_A 3 w) s.heap H locs → lv_has ls 4 [(0, .ref (w.2.2.1 0)), (1, .int v1), (2, .int v2), (3, .int v3)] → W p l e ({ frames := 3, cells := 0, slots := 0, locals := 64 } : Room) s m args below meth c H locs 0 0 (MQ below (mc_Q (some (.int rz)) (mc_B mr_k 3 w I R) (mc_A 3 w)) args s 0 0 (mc_A 3 w)) (F0 m 4 ls []) := by
  intro n
  induction n with
  | zero =>
    intro v1 v2 v3 h
    cases h
  | succ n ih =>
    intro v1 v2 v3 h
    exact bk_X9_many_B4 C hr hlk K  ih v1 v2 v3 h
set_option maxHeartbeats 4000000 in
set_option maxRecDepth 100000 in
theorem ct_X9_many (l : Launch) {w : mc_w} {I : Nat → Nat → Int32} {R : Nat → Nat → Option Nat} {F : Nat} {v1 : Int32} {rz : Int32} (h : mi_X9_many F I v1 = some rz) : Met l yX9_many (Cond.code yX9_many cX9_many 4 (some .int) :: mc_big) ({ frames := 3, cells := 0, slots := 0, locals := 64 } : Room) (va_Pc [.ref (w.2.2.1 0), .int v1] (mc_B mr_k 3 w I R)) (mc_Q (some (.int rz)) (mc_B mr_k 3 w I R) (mc_A 3 w)) 0 0 (mc_A 3 w) := by
  refine Met.ofW (cc := cX9_many) (maxL := 4) (ret := (some .int)) (by decide) rfl ?_
  intro p e s m args below meth c s₁ B hml hv
  obtain ⟨rfl, hP, K⟩ := hv
  have hown : s.vm.findClass RX9 = some m.cls := findClass_of_methodNamed B.named
  have C : CallFix p m c cX9_many 4 s _ mc_big RX9 := ⟨B.exec, B.bytes, hml, hown, fun w hw => atoms_spec B.pre w (List.mem_cons_of_mem _ hw)⟩
  have hx := C.1
  have hb := C.2.1
  have hC := And.intro C.1 C.2.1
  have hr := B.returns
  have hlk := B.notSynchronized
  have hS : va_S (mc_A 3 w) s.heap s.heap [] := va_S.rf
  have hl := lv_entry ([.ref (w.2.2.1 0), .int v1]) (n := 4) (Nat.le_of_ble_eq_true rfl)
  rw [lg_entry_eq]
  generalize (lg_sl ([.ref (w.2.2.1 0), .int v1]) ++ List.replicate (4 - (lg_sl ([.ref (w.2.2.1 0), .int v1])).length) Slot.unset).toArray = ls at hl ⊢
  have hl : lv_has ls 4 [(0, .ref (w.2.2.1 0)), (1, .int v1)] := hl
  unfold mi_X9_many at h
  refine lv_iconst (v := 0) hx hb dX9_many_0 (by decide) ?_
  refine lv_istore_n (i := 2) (lv' := [(2, .int 0), (0, .ref (w.2.2.1 0)), (1, .int v1)]) hx hb dX9_many_1 rfl hl (by decide) rfl (fun ls hl => ?_)
  refine lv_iconst (v := 0) hx hb dX9_many_2 (by decide) ?_
  refine lv_istore_n (i := 3) (lv' := [(3, .int 0), (2, .int 0), (0, .ref (w.2.2.1 0)), (1, .int v1)]) hx hb dX9_many_3 rfl hl (by decide) rfl (fun ls hl => ?_)
  exact bk_X9_many_L4 C hr hlk K  F v1 0 0 h  hP hS (lv_sub hl [2, 3, 1, 0] rfl)
set_option maxHeartbeats 4000000 in
set_option maxRecDepth 100000 in
theorem ct_X9_count (l : Launch) {w : mc_w} {I : Nat → Nat → Int32} {R : Nat → Nat → Option Nat} {F : Nat} {v1 : Int32} {rz : Int32} (h : mi_X9_count F I v1 = some rz) : Met l yX9_count (Cond.code yX9_count cX9_count 2 (some .int) :: mc_big) ({ frames := 4, cells := 0, slots := 0, locals := 87 } : Room) (va_Pc [.ref (w.2.2.1 0), .int v1] (mc_B mr_k 3 w I R)) (mc_Q (some (.int rz)) (mc_B mr_k 3 w I R) (mc_A 3 w)) 0 0 (mc_A 3 w) := by
  refine Met.ofW (cc := cX9_count) (maxL := 2) (ret := (some .int)) (by decide) rfl ?_
  intro p e s m args below meth c s₁ B hml hv
  obtain ⟨rfl, hP, K⟩ := hv
  have hown : s.vm.findClass RX9 = some m.cls := findClass_of_methodNamed B.named
  have C : CallFix p m c cX9_count 2 s _ mc_big RX9 := ⟨B.exec, B.bytes, hml, hown, fun w hw => atoms_spec B.pre w (List.mem_cons_of_mem _ hw)⟩
  have hx := C.1
  have hb := C.2.1
  have hC := And.intro C.1 C.2.1
  have hr := B.returns
  have hlk := B.notSynchronized
  have hS : va_S (mc_A 3 w) s.heap s.heap [] := va_S.rf
  have hl := lv_entry ([.ref (w.2.2.1 0), .int v1]) (n := 2) (Nat.le_of_ble_eq_true rfl)
  rw [lg_entry_eq]
  generalize (lg_sl ([.ref (w.2.2.1 0), .int v1]) ++ List.replicate (2 - (lg_sl ([.ref (w.2.2.1 0), .int v1])).length) Slot.unset).toArray = ls at hl ⊢
  have hl : lv_has ls 2 [(0, .ref (w.2.2.1 0)), (1, .int v1)] := hl
  unfold mi_X9_count at h
  refine lv_iload_n hx hb dX9_count_0 rfl (lv_at hl 1 rfl) ?_
  by_cases c1 : v1 = 0
  · replace h := mc_it h c1
    refine lv_tableIn (off := 91) (tgt := 92) hx hb dX9_count_1 (by rw [c1]; decide) (by rw [c1]; decide) (by rw [c1]; decide) (by decide) ?_
    refine lv_aload_n hx hb dX9_count_92 rfl (lv_at hl 0 rfl) ?_
    refine mf_X9_7 C K hP kr_0 dX9_count_93 ?_
    refine lv_iload_n hx hb dX9_count_96 rfl (lv_at hl 1 rfl) ?_
    obtain ⟨g2, h⟩ := mc_gd h
    refine ma_l16 hC K hP kr_1 g2 dX9_count_97 ?_
    cases h
    exact mt_i hC hr hlk K hP hS dX9_count_98
  replace h := mc_ie h c1
  by_cases c3 : v1 = 1
  · replace h := mc_it h c3
    refine lv_tableIn (off := 91) (tgt := 92) hx hb dX9_count_1 (by rw [c3]; decide) (by rw [c3]; decide) (by rw [c3]; decide) (by decide) ?_
    refine lv_aload_n hx hb dX9_count_92 rfl (lv_at hl 0 rfl) ?_
    refine mf_X9_7 C K hP kr_0 dX9_count_93 ?_
    refine lv_iload_n hx hb dX9_count_96 rfl (lv_at hl 1 rfl) ?_
    obtain ⟨g4, h⟩ := mc_gd h
    refine ma_l16 hC K hP kr_1 g4 dX9_count_97 ?_
    cases h
    exact mt_i hC hr hlk K hP hS dX9_count_98
  replace h := mc_ie h c3
  by_cases c5 : v1 = 2
  · replace h := mc_it h c5
    refine lv_tableIn (off := 91) (tgt := 92) hx hb dX9_count_1 (by rw [c5]; decide) (by rw [c5]; decide) (by rw [c5]; decide) (by decide) ?_
    refine lv_aload_n hx hb dX9_count_92 rfl (lv_at hl 0 rfl) ?_
    refine mf_X9_7 C K hP kr_0 dX9_count_93 ?_
    refine lv_iload_n hx hb dX9_count_96 rfl (lv_at hl 1 rfl) ?_
    obtain ⟨g6, h⟩ := mc_gd h
    refine ma_l16 hC K hP kr_1 g6 dX9_count_97 ?_
    cases h
    exact mt_i hC hr hlk K hP hS dX9_count_98
  replace h := mc_ie h c5
  by_cases c7 : v1 = 3
  · replace h := mc_it h c7
    refine lv_tableIn (off := 98) (tgt := 99) hx hb dX9_count_1 (by rw [c7]; decide) (by rw [c7]; decide) (by rw [c7]; decide) (by decide) ?_
    refine lv_aload_n hx hb dX9_count_99 rfl (lv_at hl 0 rfl) ?_
    refine lv_iconst (v := 0) hx hb dX9_count_100 (by decide) ?_
    obtain ⟨r8, e9, h⟩ := mc_ob_e h
    refine mg_Vi (As := [.int 0]) (rest := []) (ct_X9_counted l (w := w) (I := I) (R := R) e9) C K hP hS hl.1 kr_0 (by decide) rfl rfl ml_X9_45 wy_X9_counted wd_X9_counted rfl rfl rfl ⟨Nat.le_of_ble_eq_true rfl, Nat.le_of_ble_eq_true rfl⟩ (Nat.le_of_ble_eq_true rfl) ⟨Nat.zero_le _, Nat.zero_le _⟩ dX9_count_101 (fun H locs hP hS => ?_)
    cases h
    exact mt_i hC hr hlk K hP hS dX9_count_104
  replace h := mc_ie h c7
  by_cases c10 : v1 = 4
  · replace h := mc_it h c10
    refine lv_tableIn (off := 104) (tgt := 105) hx hb dX9_count_1 (by rw [c10]; decide) (by rw [c10]; decide) (by rw [c10]; decide) (by decide) ?_
    refine lv_aload_n hx hb dX9_count_105 rfl (lv_at hl 0 rfl) ?_
    refine mf_X9_7 C K hP kr_0 dX9_count_106 ?_
    refine lv_iconst (v := 3) hx hb dX9_count_109 (by decide) ?_
    obtain ⟨g11, h⟩ := mc_gd h
    refine ma_l16 hC K hP kr_1 g11 dX9_count_110 ?_
    cases h
    exact mt_i hC hr hlk K hP hS dX9_count_111
  replace h := mc_ie h c10
  by_cases c12 : v1 = 5
  · replace h := mc_it h c12
    refine lv_tableIn (off := 111) (tgt := 112) hx hb dX9_count_1 (by rw [c12]; decide) (by rw [c12]; decide) (by rw [c12]; decide) (by decide) ?_
    refine lv_aload_n hx hb dX9_count_112 rfl (lv_at hl 0 rfl) ?_
    refine mf_X9_7 C K hP kr_0 dX9_count_113 ?_
    refine lv_iconst (v := 4) hx hb dX9_count_116 (by decide) ?_
    obtain ⟨g13, h⟩ := mc_gd h
    refine ma_l16 hC K hP kr_1 g13 dX9_count_117 ?_
    cases h
    exact mt_i hC hr hlk K hP hS dX9_count_118
  replace h := mc_ie h c12
  by_cases c14 : v1 = 6
  · replace h := mc_it h c14
    refine lv_tableIn (off := 118) (tgt := 119) hx hb dX9_count_1 (by rw [c14]; decide) (by rw [c14]; decide) (by rw [c14]; decide) (by decide) ?_
    refine lv_aload_n hx hb dX9_count_119 rfl (lv_at hl 0 rfl) ?_
    refine lv_iload_n hx hb dX9_count_120 rfl (lv_at hl 1 rfl) ?_
    refine lv_bipush (v := 6) hx hb dX9_count_121 (by decide) ?_
    refine lv_isub hx hb dX9_count_123 ?_
    obtain ⟨r15, e16, h⟩ := mc_ob_e h
    refine mg_Vi (As := [.int (v1 - 6)]) (rest := []) (ct_X9_many l (w := w) (I := I) (R := R) e16) C K hP hS hl.1 kr_0 (by decide) rfl rfl ml_X9_181 wy_X9_many wd_X9_many rfl rfl rfl ⟨Nat.le_of_ble_eq_true rfl, Nat.le_of_ble_eq_true rfl⟩ (Nat.le_of_ble_eq_true rfl) ⟨Nat.zero_le _, Nat.zero_le _⟩ dX9_count_124 (fun H locs hP hS => ?_)
    cases h
    exact mt_i hC hr hlk K hP hS dX9_count_127
  replace h := mc_ie h c14
  by_cases c17 : v1 = 7
  · replace h := mc_it h c17
    refine lv_tableIn (off := 118) (tgt := 119) hx hb dX9_count_1 (by rw [c17]; decide) (by rw [c17]; decide) (by rw [c17]; decide) (by decide) ?_
    refine lv_aload_n hx hb dX9_count_119 rfl (lv_at hl 0 rfl) ?_
    refine lv_iload_n hx hb dX9_count_120 rfl (lv_at hl 1 rfl) ?_
    refine lv_bipush (v := 6) hx hb dX9_count_121 (by decide) ?_
    refine lv_isub hx hb dX9_count_123 ?_
    obtain ⟨r18, e19, h⟩ := mc_ob_e h
    refine mg_Vi (As := [.int (v1 - 6)]) (rest := []) (ct_X9_many l (w := w) (I := I) (R := R) e19) C K hP hS hl.1 kr_0 (by decide) rfl rfl ml_X9_181 wy_X9_many wd_X9_many rfl rfl rfl ⟨Nat.le_of_ble_eq_true rfl, Nat.le_of_ble_eq_true rfl⟩ (Nat.le_of_ble_eq_true rfl) ⟨Nat.zero_le _, Nat.zero_le _⟩ dX9_count_124 (fun H locs hP hS => ?_)
    cases h
    exact mt_i hC hr hlk K hP hS dX9_count_127
  replace h := mc_ie h c17
  by_cases c20 : v1 = 8
  · replace h := mc_it h c20
    refine lv_tableIn (off := 118) (tgt := 119) hx hb dX9_count_1 (by rw [c20]; decide) (by rw [c20]; decide) (by rw [c20]; decide) (by decide) ?_
    refine lv_aload_n hx hb dX9_count_119 rfl (lv_at hl 0 rfl) ?_
    refine lv_iload_n hx hb dX9_count_120 rfl (lv_at hl 1 rfl) ?_
    refine lv_bipush (v := 6) hx hb dX9_count_121 (by decide) ?_
    refine lv_isub hx hb dX9_count_123 ?_
    obtain ⟨r21, e22, h⟩ := mc_ob_e h
    refine mg_Vi (As := [.int (v1 - 6)]) (rest := []) (ct_X9_many l (w := w) (I := I) (R := R) e22) C K hP hS hl.1 kr_0 (by decide) rfl rfl ml_X9_181 wy_X9_many wd_X9_many rfl rfl rfl ⟨Nat.le_of_ble_eq_true rfl, Nat.le_of_ble_eq_true rfl⟩ (Nat.le_of_ble_eq_true rfl) ⟨Nat.zero_le _, Nat.zero_le _⟩ dX9_count_124 (fun H locs hP hS => ?_)
    cases h
    exact mt_i hC hr hlk K hP hS dX9_count_127
  replace h := mc_ie h c20
  by_cases c23 : v1 = 9
  · replace h := mc_it h c23
    refine lv_tableIn (off := 137) (tgt := 138) hx hb dX9_count_1 (by rw [c23]; decide) (by rw [c23]; decide) (by rw [c23]; decide) (by decide) ?_
    refine lv_iload_n hx hb dX9_count_138 rfl (lv_at hl 1 rfl) ?_
    refine lv_bipush (v := 9) hx hb dX9_count_139 (by decide) ?_
    refine lv_bipush (v := 16) hx hb dX9_count_141 (by decide) ?_
    refine mg_Sz (As := [.int v1, .int 9, .int 16]) (rest := []) (ct_X9_in l (w := w) (I := I) (R := R) rfl) C K hP hS hl.1 ml_X9_81 wy_X9_in wd_X9_in rfl rfl rfl ⟨Nat.le_of_ble_eq_true rfl, Nat.le_of_ble_eq_true rfl⟩ (Nat.le_of_ble_eq_true rfl) ⟨Nat.zero_le _, Nat.zero_le _⟩ dX9_count_143 (fun H locs hP z25 hS => ?_)
    refine lv_if_eq (tgt := 163) hx hb dX9_count_146 (by decide) (fun c26 => ?_) (fun c26 => ?_)
    · replace h := mc_it h c26
      refine lv_sipush (v := (-1002)) hx hb dX9_count_163 (by decide) ?_
      cases h
      exact mt_i hC hr hlk K hP hS dX9_count_166
    · replace h := mc_ie h c26
      refine lv_aload_n hx hb dX9_count_149 rfl (lv_at hl 0 rfl) ?_
      refine mf_X9_7 C K hP kr_0 dX9_count_150 ?_
      refine lv_iconst (v := 5) hx hb dX9_count_153 (by decide) ?_
      refine lv_iload_n hx hb dX9_count_154 rfl (lv_at hl 1 rfl) ?_
      refine lv_iadd hx hb dX9_count_155 ?_
      refine lv_bipush (v := 9) hx hb dX9_count_156 (by decide) ?_
      refine lv_isub hx hb dX9_count_158 ?_
      obtain ⟨g27, h⟩ := mc_gd h
      refine ma_l16 hC K hP kr_1 g27 dX9_count_159 ?_
      refine lv_goto (tgt := 166) hx hb dX9_count_160 (by decide) ?_
      cases h
      exact mt_i hC hr hlk K hP hS dX9_count_166
  replace h := mc_ie h c23
  by_cases c28 : v1 = 10
  · replace h := mc_it h c28
    refine lv_tableIn (off := 137) (tgt := 138) hx hb dX9_count_1 (by rw [c28]; decide) (by rw [c28]; decide) (by rw [c28]; decide) (by decide) ?_
    refine lv_iload_n hx hb dX9_count_138 rfl (lv_at hl 1 rfl) ?_
    refine lv_bipush (v := 9) hx hb dX9_count_139 (by decide) ?_
    refine lv_bipush (v := 16) hx hb dX9_count_141 (by decide) ?_
    refine mg_Sz (As := [.int v1, .int 9, .int 16]) (rest := []) (ct_X9_in l (w := w) (I := I) (R := R) rfl) C K hP hS hl.1 ml_X9_81 wy_X9_in wd_X9_in rfl rfl rfl ⟨Nat.le_of_ble_eq_true rfl, Nat.le_of_ble_eq_true rfl⟩ (Nat.le_of_ble_eq_true rfl) ⟨Nat.zero_le _, Nat.zero_le _⟩ dX9_count_143 (fun H locs hP z30 hS => ?_)
    refine lv_if_eq (tgt := 163) hx hb dX9_count_146 (by decide) (fun c31 => ?_) (fun c31 => ?_)
    · replace h := mc_it h c31
      refine lv_sipush (v := (-1002)) hx hb dX9_count_163 (by decide) ?_
      cases h
      exact mt_i hC hr hlk K hP hS dX9_count_166
    · replace h := mc_ie h c31
      refine lv_aload_n hx hb dX9_count_149 rfl (lv_at hl 0 rfl) ?_
      refine mf_X9_7 C K hP kr_0 dX9_count_150 ?_
      refine lv_iconst (v := 5) hx hb dX9_count_153 (by decide) ?_
      refine lv_iload_n hx hb dX9_count_154 rfl (lv_at hl 1 rfl) ?_
      refine lv_iadd hx hb dX9_count_155 ?_
      refine lv_bipush (v := 9) hx hb dX9_count_156 (by decide) ?_
      refine lv_isub hx hb dX9_count_158 ?_
      obtain ⟨g32, h⟩ := mc_gd h
      refine ma_l16 hC K hP kr_1 g32 dX9_count_159 ?_
      refine lv_goto (tgt := 166) hx hb dX9_count_160 (by decide) ?_
      cases h
      exact mt_i hC hr hlk K hP hS dX9_count_166
  replace h := mc_ie h c28
  by_cases c33 : v1 = 11
  · replace h := mc_it h c33
    refine lv_tableIn (off := 137) (tgt := 138) hx hb dX9_count_1 (by rw [c33]; decide) (by rw [c33]; decide) (by rw [c33]; decide) (by decide) ?_
    refine lv_iload_n hx hb dX9_count_138 rfl (lv_at hl 1 rfl) ?_
    refine lv_bipush (v := 9) hx hb dX9_count_139 (by decide) ?_
    refine lv_bipush (v := 16) hx hb dX9_count_141 (by decide) ?_
    refine mg_Sz (As := [.int v1, .int 9, .int 16]) (rest := []) (ct_X9_in l (w := w) (I := I) (R := R) rfl) C K hP hS hl.1 ml_X9_81 wy_X9_in wd_X9_in rfl rfl rfl ⟨Nat.le_of_ble_eq_true rfl, Nat.le_of_ble_eq_true rfl⟩ (Nat.le_of_ble_eq_true rfl) ⟨Nat.zero_le _, Nat.zero_le _⟩ dX9_count_143 (fun H locs hP z35 hS => ?_)
    refine lv_if_eq (tgt := 163) hx hb dX9_count_146 (by decide) (fun c36 => ?_) (fun c36 => ?_)
    · replace h := mc_it h c36
      refine lv_sipush (v := (-1002)) hx hb dX9_count_163 (by decide) ?_
      cases h
      exact mt_i hC hr hlk K hP hS dX9_count_166
    · replace h := mc_ie h c36
      refine lv_aload_n hx hb dX9_count_149 rfl (lv_at hl 0 rfl) ?_
      refine mf_X9_7 C K hP kr_0 dX9_count_150 ?_
      refine lv_iconst (v := 5) hx hb dX9_count_153 (by decide) ?_
      refine lv_iload_n hx hb dX9_count_154 rfl (lv_at hl 1 rfl) ?_
      refine lv_iadd hx hb dX9_count_155 ?_
      refine lv_bipush (v := 9) hx hb dX9_count_156 (by decide) ?_
      refine lv_isub hx hb dX9_count_158 ?_
      obtain ⟨g37, h⟩ := mc_gd h
      refine ma_l16 hC K hP kr_1 g37 dX9_count_159 ?_
      refine lv_goto (tgt := 166) hx hb dX9_count_160 (by decide) ?_
      cases h
      exact mt_i hC hr hlk K hP hS dX9_count_166
  replace h := mc_ie h c33
  by_cases c38 : v1 = 12
  · replace h := mc_it h c38
    refine lv_tableIn (off := 137) (tgt := 138) hx hb dX9_count_1 (by rw [c38]; decide) (by rw [c38]; decide) (by rw [c38]; decide) (by decide) ?_
    refine lv_iload_n hx hb dX9_count_138 rfl (lv_at hl 1 rfl) ?_
    refine lv_bipush (v := 9) hx hb dX9_count_139 (by decide) ?_
    refine lv_bipush (v := 16) hx hb dX9_count_141 (by decide) ?_
    refine mg_Sz (As := [.int v1, .int 9, .int 16]) (rest := []) (ct_X9_in l (w := w) (I := I) (R := R) rfl) C K hP hS hl.1 ml_X9_81 wy_X9_in wd_X9_in rfl rfl rfl ⟨Nat.le_of_ble_eq_true rfl, Nat.le_of_ble_eq_true rfl⟩ (Nat.le_of_ble_eq_true rfl) ⟨Nat.zero_le _, Nat.zero_le _⟩ dX9_count_143 (fun H locs hP z40 hS => ?_)
    refine lv_if_eq (tgt := 163) hx hb dX9_count_146 (by decide) (fun c41 => ?_) (fun c41 => ?_)
    · replace h := mc_it h c41
      refine lv_sipush (v := (-1002)) hx hb dX9_count_163 (by decide) ?_
      cases h
      exact mt_i hC hr hlk K hP hS dX9_count_166
    · replace h := mc_ie h c41
      refine lv_aload_n hx hb dX9_count_149 rfl (lv_at hl 0 rfl) ?_
      refine mf_X9_7 C K hP kr_0 dX9_count_150 ?_
      refine lv_iconst (v := 5) hx hb dX9_count_153 (by decide) ?_
      refine lv_iload_n hx hb dX9_count_154 rfl (lv_at hl 1 rfl) ?_
      refine lv_iadd hx hb dX9_count_155 ?_
      refine lv_bipush (v := 9) hx hb dX9_count_156 (by decide) ?_
      refine lv_isub hx hb dX9_count_158 ?_
      obtain ⟨g42, h⟩ := mc_gd h
      refine ma_l16 hC K hP kr_1 g42 dX9_count_159 ?_
      refine lv_goto (tgt := 166) hx hb dX9_count_160 (by decide) ?_
      cases h
      exact mt_i hC hr hlk K hP hS dX9_count_166
  replace h := mc_ie h c38
  by_cases c43 : v1 = 13
  · replace h := mc_it h c43
    refine lv_tableIn (off := 137) (tgt := 138) hx hb dX9_count_1 (by rw [c43]; decide) (by rw [c43]; decide) (by rw [c43]; decide) (by decide) ?_
    refine lv_iload_n hx hb dX9_count_138 rfl (lv_at hl 1 rfl) ?_
    refine lv_bipush (v := 9) hx hb dX9_count_139 (by decide) ?_
    refine lv_bipush (v := 16) hx hb dX9_count_141 (by decide) ?_
    refine mg_Sz (As := [.int v1, .int 9, .int 16]) (rest := []) (ct_X9_in l (w := w) (I := I) (R := R) rfl) C K hP hS hl.1 ml_X9_81 wy_X9_in wd_X9_in rfl rfl rfl ⟨Nat.le_of_ble_eq_true rfl, Nat.le_of_ble_eq_true rfl⟩ (Nat.le_of_ble_eq_true rfl) ⟨Nat.zero_le _, Nat.zero_le _⟩ dX9_count_143 (fun H locs hP z45 hS => ?_)
    refine lv_if_eq (tgt := 163) hx hb dX9_count_146 (by decide) (fun c46 => ?_) (fun c46 => ?_)
    · replace h := mc_it h c46
      refine lv_sipush (v := (-1002)) hx hb dX9_count_163 (by decide) ?_
      cases h
      exact mt_i hC hr hlk K hP hS dX9_count_166
    · replace h := mc_ie h c46
      refine lv_aload_n hx hb dX9_count_149 rfl (lv_at hl 0 rfl) ?_
      refine mf_X9_7 C K hP kr_0 dX9_count_150 ?_
      refine lv_iconst (v := 5) hx hb dX9_count_153 (by decide) ?_
      refine lv_iload_n hx hb dX9_count_154 rfl (lv_at hl 1 rfl) ?_
      refine lv_iadd hx hb dX9_count_155 ?_
      refine lv_bipush (v := 9) hx hb dX9_count_156 (by decide) ?_
      refine lv_isub hx hb dX9_count_158 ?_
      obtain ⟨g47, h⟩ := mc_gd h
      refine ma_l16 hC K hP kr_1 g47 dX9_count_159 ?_
      refine lv_goto (tgt := 166) hx hb dX9_count_160 (by decide) ?_
      cases h
      exact mt_i hC hr hlk K hP hS dX9_count_166
  replace h := mc_ie h c43
  by_cases c48 : v1 = 14
  · replace h := mc_it h c48
    refine lv_tableIn (off := 137) (tgt := 138) hx hb dX9_count_1 (by rw [c48]; decide) (by rw [c48]; decide) (by rw [c48]; decide) (by decide) ?_
    refine lv_iload_n hx hb dX9_count_138 rfl (lv_at hl 1 rfl) ?_
    refine lv_bipush (v := 9) hx hb dX9_count_139 (by decide) ?_
    refine lv_bipush (v := 16) hx hb dX9_count_141 (by decide) ?_
    refine mg_Sz (As := [.int v1, .int 9, .int 16]) (rest := []) (ct_X9_in l (w := w) (I := I) (R := R) rfl) C K hP hS hl.1 ml_X9_81 wy_X9_in wd_X9_in rfl rfl rfl ⟨Nat.le_of_ble_eq_true rfl, Nat.le_of_ble_eq_true rfl⟩ (Nat.le_of_ble_eq_true rfl) ⟨Nat.zero_le _, Nat.zero_le _⟩ dX9_count_143 (fun H locs hP z50 hS => ?_)
    refine lv_if_eq (tgt := 163) hx hb dX9_count_146 (by decide) (fun c51 => ?_) (fun c51 => ?_)
    · replace h := mc_it h c51
      refine lv_sipush (v := (-1002)) hx hb dX9_count_163 (by decide) ?_
      cases h
      exact mt_i hC hr hlk K hP hS dX9_count_166
    · replace h := mc_ie h c51
      refine lv_aload_n hx hb dX9_count_149 rfl (lv_at hl 0 rfl) ?_
      refine mf_X9_7 C K hP kr_0 dX9_count_150 ?_
      refine lv_iconst (v := 5) hx hb dX9_count_153 (by decide) ?_
      refine lv_iload_n hx hb dX9_count_154 rfl (lv_at hl 1 rfl) ?_
      refine lv_iadd hx hb dX9_count_155 ?_
      refine lv_bipush (v := 9) hx hb dX9_count_156 (by decide) ?_
      refine lv_isub hx hb dX9_count_158 ?_
      obtain ⟨g52, h⟩ := mc_gd h
      refine ma_l16 hC K hP kr_1 g52 dX9_count_159 ?_
      refine lv_goto (tgt := 166) hx hb dX9_count_160 (by decide) ?_
      cases h
      exact mt_i hC hr hlk K hP hS dX9_count_166
  replace h := mc_ie h c48
  by_cases c53 : v1 = 15
  · replace h := mc_it h c53
    refine lv_tableIn (off := 137) (tgt := 138) hx hb dX9_count_1 (by rw [c53]; decide) (by rw [c53]; decide) (by rw [c53]; decide) (by decide) ?_
    refine lv_iload_n hx hb dX9_count_138 rfl (lv_at hl 1 rfl) ?_
    refine lv_bipush (v := 9) hx hb dX9_count_139 (by decide) ?_
    refine lv_bipush (v := 16) hx hb dX9_count_141 (by decide) ?_
    refine mg_Sz (As := [.int v1, .int 9, .int 16]) (rest := []) (ct_X9_in l (w := w) (I := I) (R := R) rfl) C K hP hS hl.1 ml_X9_81 wy_X9_in wd_X9_in rfl rfl rfl ⟨Nat.le_of_ble_eq_true rfl, Nat.le_of_ble_eq_true rfl⟩ (Nat.le_of_ble_eq_true rfl) ⟨Nat.zero_le _, Nat.zero_le _⟩ dX9_count_143 (fun H locs hP z55 hS => ?_)
    refine lv_if_eq (tgt := 163) hx hb dX9_count_146 (by decide) (fun c56 => ?_) (fun c56 => ?_)
    · replace h := mc_it h c56
      refine lv_sipush (v := (-1002)) hx hb dX9_count_163 (by decide) ?_
      cases h
      exact mt_i hC hr hlk K hP hS dX9_count_166
    · replace h := mc_ie h c56
      refine lv_aload_n hx hb dX9_count_149 rfl (lv_at hl 0 rfl) ?_
      refine mf_X9_7 C K hP kr_0 dX9_count_150 ?_
      refine lv_iconst (v := 5) hx hb dX9_count_153 (by decide) ?_
      refine lv_iload_n hx hb dX9_count_154 rfl (lv_at hl 1 rfl) ?_
      refine lv_iadd hx hb dX9_count_155 ?_
      refine lv_bipush (v := 9) hx hb dX9_count_156 (by decide) ?_
      refine lv_isub hx hb dX9_count_158 ?_
      obtain ⟨g57, h⟩ := mc_gd h
      refine ma_l16 hC K hP kr_1 g57 dX9_count_159 ?_
      refine lv_goto (tgt := 166) hx hb dX9_count_160 (by decide) ?_
      cases h
      exact mt_i hC hr hlk K hP hS dX9_count_166
  replace h := mc_ie h c53
  by_cases c58 : v1 = 16
  · replace h := mc_it h c58
    refine lv_tableIn (off := 137) (tgt := 138) hx hb dX9_count_1 (by rw [c58]; decide) (by rw [c58]; decide) (by rw [c58]; decide) (by decide) ?_
    refine lv_iload_n hx hb dX9_count_138 rfl (lv_at hl 1 rfl) ?_
    refine lv_bipush (v := 9) hx hb dX9_count_139 (by decide) ?_
    refine lv_bipush (v := 16) hx hb dX9_count_141 (by decide) ?_
    refine mg_Sz (As := [.int v1, .int 9, .int 16]) (rest := []) (ct_X9_in l (w := w) (I := I) (R := R) rfl) C K hP hS hl.1 ml_X9_81 wy_X9_in wd_X9_in rfl rfl rfl ⟨Nat.le_of_ble_eq_true rfl, Nat.le_of_ble_eq_true rfl⟩ (Nat.le_of_ble_eq_true rfl) ⟨Nat.zero_le _, Nat.zero_le _⟩ dX9_count_143 (fun H locs hP z60 hS => ?_)
    refine lv_if_eq (tgt := 163) hx hb dX9_count_146 (by decide) (fun c61 => ?_) (fun c61 => ?_)
    · replace h := mc_it h c61
      refine lv_sipush (v := (-1002)) hx hb dX9_count_163 (by decide) ?_
      cases h
      exact mt_i hC hr hlk K hP hS dX9_count_166
    · replace h := mc_ie h c61
      refine lv_aload_n hx hb dX9_count_149 rfl (lv_at hl 0 rfl) ?_
      refine mf_X9_7 C K hP kr_0 dX9_count_150 ?_
      refine lv_iconst (v := 5) hx hb dX9_count_153 (by decide) ?_
      refine lv_iload_n hx hb dX9_count_154 rfl (lv_at hl 1 rfl) ?_
      refine lv_iadd hx hb dX9_count_155 ?_
      refine lv_bipush (v := 9) hx hb dX9_count_156 (by decide) ?_
      refine lv_isub hx hb dX9_count_158 ?_
      obtain ⟨g62, h⟩ := mc_gd h
      refine ma_l16 hC K hP kr_1 g62 dX9_count_159 ?_
      refine lv_goto (tgt := 166) hx hb dX9_count_160 (by decide) ?_
      cases h
      exact mt_i hC hr hlk K hP hS dX9_count_166
  replace h := mc_ie h c58
  by_cases c63 : v1 = 17
  · replace h := mc_it h c63
    refine lv_tableIn (off := 127) (tgt := 128) hx hb dX9_count_1 (by rw [c63]; decide) (by rw [c63]; decide) (by rw [c63]; decide) (by decide) ?_
    refine lv_aload_n hx hb dX9_count_128 rfl (lv_at hl 0 rfl) ?_
    refine mf_X9_23 C K hP kr_0 dX9_count_129 ?_
    cases h
    exact mt_i hC hr hlk K hP hS dX9_count_132
  replace h := mc_ie h c63
  by_cases c64 : v1 = 18
  · replace h := mc_it h c64
    refine lv_tableIn (off := 132) (tgt := 133) hx hb dX9_count_1 (by rw [c64]; decide) (by rw [c64]; decide) (by rw [c64]; decide) (by decide) ?_
    refine lv_aload_n hx hb dX9_count_133 rfl (lv_at hl 0 rfl) ?_
    refine mf_X9_137 C K hP kr_0 dX9_count_134 ?_
    cases h
    exact mt_i hC hr hlk K hP hS dX9_count_137
  replace h := mc_ie h c64
  refine lv_tableOut (tgt := 138) hx hb dX9_count_1 (mc_sw (lo := 0) (hi := 18) (fun v h1 h2 => by rcases (show v = 0 ∨ v = 1 ∨ v = 2 ∨ v = 3 ∨ v = 4 ∨ v = 5 ∨ v = 6 ∨ v = 7 ∨ v = 8 ∨ v = 9 ∨ v = 10 ∨ v = 11 ∨ v = 12 ∨ v = 13 ∨ v = 14 ∨ v = 15 ∨ v = 16 ∨ v = 17 ∨ v = 18 by omega) with rfl | rfl | rfl | rfl | rfl | rfl | rfl | rfl | rfl | rfl | rfl | rfl | rfl | rfl | rfl | rfl | rfl | rfl | rfl <;> first | exact ⟨0, by decide, c1⟩ | exact ⟨1, by decide, c3⟩ | exact ⟨2, by decide, c5⟩ | exact ⟨3, by decide, c7⟩ | exact ⟨4, by decide, c10⟩ | exact ⟨5, by decide, c12⟩ | exact ⟨6, by decide, c14⟩ | exact ⟨7, by decide, c17⟩ | exact ⟨8, by decide, c20⟩ | exact ⟨9, by decide, c23⟩ | exact ⟨10, by decide, c28⟩ | exact ⟨11, by decide, c33⟩ | exact ⟨12, by decide, c38⟩ | exact ⟨13, by decide, c43⟩ | exact ⟨14, by decide, c48⟩ | exact ⟨15, by decide, c53⟩ | exact ⟨16, by decide, c58⟩ | exact ⟨17, by decide, c63⟩ | exact ⟨18, by decide, c64⟩)) (by decide) ?_
  refine lv_iload_n hx hb dX9_count_138 rfl (lv_at hl 1 rfl) ?_
  refine lv_bipush (v := 9) hx hb dX9_count_139 (by decide) ?_
  refine lv_bipush (v := 16) hx hb dX9_count_141 (by decide) ?_
  refine mg_Sz (As := [.int v1, .int 9, .int 16]) (rest := []) (ct_X9_in l (w := w) (I := I) (R := R) rfl) C K hP hS hl.1 ml_X9_81 wy_X9_in wd_X9_in rfl rfl rfl ⟨Nat.le_of_ble_eq_true rfl, Nat.le_of_ble_eq_true rfl⟩ (Nat.le_of_ble_eq_true rfl) ⟨Nat.zero_le _, Nat.zero_le _⟩ dX9_count_143 (fun H locs hP z66 hS => ?_)
  refine lv_if_eq (tgt := 163) hx hb dX9_count_146 (by decide) (fun c67 => ?_) (fun c67 => ?_)
  · replace h := mc_it h c67
    refine lv_sipush (v := (-1002)) hx hb dX9_count_163 (by decide) ?_
    cases h
    exact mt_i hC hr hlk K hP hS dX9_count_166
  · replace h := mc_ie h c67
    refine lv_aload_n hx hb dX9_count_149 rfl (lv_at hl 0 rfl) ?_
    refine mf_X9_7 C K hP kr_0 dX9_count_150 ?_
    refine lv_iconst (v := 5) hx hb dX9_count_153 (by decide) ?_
    refine lv_iload_n hx hb dX9_count_154 rfl (lv_at hl 1 rfl) ?_
    refine lv_iadd hx hb dX9_count_155 ?_
    refine lv_bipush (v := 9) hx hb dX9_count_156 (by decide) ?_
    refine lv_isub hx hb dX9_count_158 ?_
    obtain ⟨g68, h⟩ := mc_gd h
    refine ma_l16 hC K hP kr_1 g68 dX9_count_159 ?_
    refine lv_goto (tgt := 166) hx hb dX9_count_160 (by decide) ?_
    cases h
    exact mt_i hC hr hlk K hP hS dX9_count_166

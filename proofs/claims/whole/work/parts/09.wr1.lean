set_option maxHeartbeats 4000000 in
set_option maxRecDepth 100000 in
theorem ct_X9_in (l : Launch) {w : mc_w} {I : Nat → Nat → Int32} {R : Nat → Nat → Option Nat} {v0 : Int32} {v1 : Int32} {v2 : Int32} {rz : Int32} (h : mi_X9_in v0 v1 v2 = rz) : Met l yX9_in (Cond.code yX9_in cX9_in 3 (some .boolean) :: mc_big) ({ frames := 0, cells := 0, slots := 0, locals := 0 } : Room) (va_Pc [.int v0, .int v1, .int v2] (mc_B mr_k 3 w I R)) (mc_Q (some (.int rz)) (fun t => mc_B mr_k 3 w I R t ∧ ¬ (rz ≠ 0 ∧ rz ≠ 1)) (mc_A 3 w)) 0 0 (mc_A 3 w) := by
  refine Met.ofW (cc := cX9_in) (maxL := 3) (ret := (some .boolean)) (by decide) rfl ?_
  intro p e s m args below meth c s₁ B hml hv
  obtain ⟨rfl, hP, K⟩ := hv
  have hown : s.vm.findClass RX9 = some m.cls := findClass_of_methodNamed B.named
  have C : CallFix p m c cX9_in 3 s _ mc_big RX9 := ⟨B.exec, B.bytes, hml, hown, fun w hw => atoms_spec B.pre w (List.mem_cons_of_mem _ hw)⟩
  have hx := C.1
  have hb := C.2.1
  have hC := And.intro C.1 C.2.1
  have hr := B.returns
  have hlk := B.notSynchronized
  have hS : va_S (mc_A 3 w) s.heap s.heap [] := va_S.rf
  have hl := lv_entry ([.int v0, .int v1, .int v2]) (n := 3) (Nat.le_of_ble_eq_true rfl)
  rw [lg_entry_eq]
  generalize (lg_sl ([.int v0, .int v1, .int v2]) ++ List.replicate (3 - (lg_sl ([.int v0, .int v1, .int v2])).length) Slot.unset).toArray = ls at hl ⊢
  have hl : lv_has ls 3 [(0, .int v0), (1, .int v1), (2, .int v2)] := hl
  unfold mi_X9_in at h
  refine lv_iload_n hx hb dX9_in_0 rfl (lv_at hl 0 rfl) ?_
  refine lv_iload_n hx hb dX9_in_1 rfl (lv_at hl 1 rfl) ?_
  refine lv_icmp_lt (tgt := 14) hx hb dX9_in_2 (by decide) (fun c1 => ?_) (fun c1 => ?_)
  · replace h := mc_it h c1
    refine lv_iconst (v := 0) hx hb dX9_in_14 (by decide) ?_
    cases h
    exact mt_zX hC hr hlk K hP hS (by decide) (by decide) dX9_in_15
  · replace h := mc_ie h c1
    refine lv_iload_n hx hb dX9_in_5 rfl (lv_at hl 0 rfl) ?_
    refine lv_iload_n hx hb dX9_in_6 rfl (lv_at hl 2 rfl) ?_
    refine lv_icmp_gt (tgt := 14) hx hb dX9_in_7 (by decide) (fun c2 => ?_) (fun c2 => ?_)
    · replace h := mc_it h c2
      refine lv_iconst (v := 0) hx hb dX9_in_14 (by decide) ?_
      cases h
      exact mt_zX hC hr hlk K hP hS (by decide) (by decide) dX9_in_15
    · replace h := mc_ie h c2
      refine lv_iconst (v := 1) hx hb dX9_in_10 (by decide) ?_
      refine lv_goto (tgt := 15) hx hb dX9_in_11 (by decide) ?_
      cases h
      exact mt_zX hC hr hlk K hP hS (by decide) (by decide) dX9_in_15
set_option maxHeartbeats 4000000 in
set_option maxRecDepth 100000 in
theorem ct_X9_flag (l : Launch) {w : mc_w} {I : Nat → Nat → Int32} {R : Nat → Nat → Option Nat} {v0 : Int32} {rz : Int32} (h : mi_X9_flag v0 = rz) : Met l yX9_flag (Cond.code yX9_flag cX9_flag 1 (some .int) :: mc_big) ({ frames := 0, cells := 0, slots := 0, locals := 0 } : Room) (va_Pc [.int v0] (mc_B mr_k 3 w I R)) (mc_Q (some (.int rz)) (mc_B mr_k 3 w I R) (mc_A 3 w)) 0 0 (mc_A 3 w) := by
  refine Met.ofW (cc := cX9_flag) (maxL := 1) (ret := (some .int)) (by decide) rfl ?_
  intro p e s m args below meth c s₁ B hml hv
  obtain ⟨rfl, hP, K⟩ := hv
  have hown : s.vm.findClass RX9 = some m.cls := findClass_of_methodNamed B.named
  have C : CallFix p m c cX9_flag 1 s _ mc_big RX9 := ⟨B.exec, B.bytes, hml, hown, fun w hw => atoms_spec B.pre w (List.mem_cons_of_mem _ hw)⟩
  have hx := C.1
  have hb := C.2.1
  have hC := And.intro C.1 C.2.1
  have hr := B.returns
  have hlk := B.notSynchronized
  have hS : va_S (mc_A 3 w) s.heap s.heap [] := va_S.rf
  have hl := lv_entry ([.int v0]) (n := 1) (Nat.le_of_ble_eq_true rfl)
  rw [lg_entry_eq]
  generalize (lg_sl ([.int v0]) ++ List.replicate (1 - (lg_sl ([.int v0])).length) Slot.unset).toArray = ls at hl ⊢
  have hl : lv_has ls 1 [(0, .int v0)] := hl
  unfold mi_X9_flag at h
  refine lv_iload_n hx hb dX9_flag_0 rfl (lv_at hl 0 rfl) ?_
  refine lv_if_eq (tgt := 8) hx hb dX9_flag_1 (by decide) (fun c1 => ?_) (fun c1 => ?_)
  · replace h := mc_it h c1
    refine lv_iconst (v := 0) hx hb dX9_flag_8 (by decide) ?_
    cases h
    exact mt_i hC hr hlk K hP hS dX9_flag_9
  · replace h := mc_ie h c1
    refine lv_iconst (v := 1) hx hb dX9_flag_4 (by decide) ?_
    refine lv_goto (tgt := 9) hx hb dX9_flag_5 (by decide) ?_
    cases h
    exact mt_i hC hr hlk K hP hS dX9_flag_9
set_option maxHeartbeats 4000000 in
set_option maxRecDepth 100000 in
theorem ct_X9_size (l : Launch) {w : mc_w} {I : Nat → Nat → Int32} {R : Nat → Nat → Option Nat} {v0 : Int32} {rz : Int32} (h : mi_X9_size v0 = rz) : Met l yX9_size (Cond.code yX9_size cX9_size 1 (some .int) :: mc_big) ({ frames := 0, cells := 0, slots := 0, locals := 0 } : Room) (va_Pc [.int v0] (mc_B mr_k 3 w I R)) (mc_Q (some (.int rz)) (mc_B mr_k 3 w I R) (mc_A 3 w)) 0 0 (mc_A 3 w) := by
  refine Met.ofW (cc := cX9_size) (maxL := 1) (ret := (some .int)) (by decide) rfl ?_
  intro p e s m args below meth c s₁ B hml hv
  obtain ⟨rfl, hP, K⟩ := hv
  have hown : s.vm.findClass RX9 = some m.cls := findClass_of_methodNamed B.named
  have C : CallFix p m c cX9_size 1 s _ mc_big RX9 := ⟨B.exec, B.bytes, hml, hown, fun w hw => atoms_spec B.pre w (List.mem_cons_of_mem _ hw)⟩
  have hx := C.1
  have hb := C.2.1
  have hC := And.intro C.1 C.2.1
  have hr := B.returns
  have hlk := B.notSynchronized
  have hS : va_S (mc_A 3 w) s.heap s.heap [] := va_S.rf
  have hl := lv_entry ([.int v0]) (n := 1) (Nat.le_of_ble_eq_true rfl)
  rw [lg_entry_eq]
  generalize (lg_sl ([.int v0]) ++ List.replicate (1 - (lg_sl ([.int v0])).length) Slot.unset).toArray = ls at hl ⊢
  have hl : lv_has ls 1 [(0, .int v0)] := hl
  unfold mi_X9_size at h
  refine lv_iload_n hx hb dX9_size_0 rfl (lv_at hl 0 rfl) ?_
  refine lv_if_ge (tgt := 9) hx hb dX9_size_1 (by decide) (fun c1 => ?_) (fun c1 => ?_)
  · replace h := mc_it h c1
    refine lv_iload_n hx hb dX9_size_9 rfl (lv_at hl 0 rfl) ?_
    cases h
    exact mt_i hC hr hlk K hP hS dX9_size_10
  · replace h := mc_ie h c1
    refine lv_iload_n hx hb dX9_size_4 rfl (lv_at hl 0 rfl) ?_
    refine lv_ineg hx hb dX9_size_5 ?_
    refine lv_goto (tgt := 10) hx hb dX9_size_6 (by decide) ?_
    cases h
    exact mt_i hC hr hlk K hP hS dX9_size_10
set_option maxHeartbeats 4000000 in
set_option maxRecDepth 100000 in
theorem bk_X9_copies_B2 {p : Program} {l : Launch} {e : Env} {s : State} {m : MethodId} {args : Array Value} {below : List Frame} {meth : Method} {c : Code} (C : CallFix p m c cX9_copies 4 s args mc_big RX9) (hr : meth.sig.returnType = none) (hlk : meth.locks = false) {w : mc_w} (K : mc_K mr_k 3 w s) {R : Nat → Nat → Option Nat} {F : Nat} {Iz : Nat → Nat → Int32} {k2 : (Nat → Nat → Int32) → Int32 → Int32 → Int32 → (Option ((Nat → Nat → Int32)))} (hk2 : ∀ (I : Nat → Nat → Int32) (v1 : Int32) (v2 : Int32) (v3 : Int32), k2 I v1 v2 v3 = some Iz → ∀ {H : Heap} {locs : List Loc} {ls : Array Slot}, mc_P mr_k 3 w I R H → va_S (mc_A 3 w) s.heap H locs → lv_has ls 4 [(0, .ref (w.2.2.1 0)), (1, .int v1), (2, .int v2), (3, .int v3)] → W p l e ({ frames := 0, cells := 0, slots := 0, locals := 0 } : Room) s m args below meth c H locs 0 0 (MQ below (mc_Q none (mc_B mr_k 3 w Iz R) (mc_A 3 w)) args s 0 0 (mc_A 3 w)) (F0 m 2 ls [])) : ∀ (I : Nat → Nat → Int32) (v1 : Int32) (v2 : Int32) (v3 : Int32), mi_X9_copies_B2 k2 F I v1 v2 v3 = some Iz → ∀ {H : Heap} {locs : List Loc} {ls : Array Slot}, mc_P mr_k 3 w I R H → va_S (mc_A 3 w) s.heap H locs → lv_has ls 4 [(0, .ref (w.2.2.1 0)), (1, .int v1), (2, .int v2), (3, .int v3)] → W p l e ({ frames := 0, cells := 0, slots := 0, locals := 0 } : Room) s m args below meth c H locs 0 0 (MQ below (mc_Q none (mc_B mr_k 3 w Iz R) (mc_A 3 w)) args s 0 0 (mc_A 3 w)) (F0 m 2 ls []) := by
  intro I v1 v2 v3 h  H locs ls hP hS hl
  have hx := C.1
  have hb := C.2.1
  have hC := And.intro C.1 C.2.1
  unfold mi_X9_copies_B2 at h
  refine lv_iload_n hx hb dX9_copies_2 rfl (lv_at hl 3 rfl) ?_
  refine lv_sipush (v := 177) hx hb dX9_copies_3 (by decide) ?_
  refine lv_icmp_ge (tgt := 39) hx hb dX9_copies_6 (by decide) (fun c1 => ?_) (fun c1 => ?_)
  · replace h := mc_it h c1
    cases h
    exact mt_v hC hr hlk K hP hS dX9_copies_39
  · replace h := mc_ie h c1
    refine lv_aload_n hx hb dX9_copies_9 rfl (lv_at hl 0 rfl) ?_
    refine mf_X9_7 C K hP kr_0 dX9_copies_10 ?_
    refine lv_sipush (v := 177) hx hb dX9_copies_13 (by decide) ?_
    refine lv_iload_n hx hb dX9_copies_16 rfl (lv_at hl 2 rfl) ?_
    refine lv_imul hx hb dX9_copies_17 ?_
    refine lv_iload_n hx hb dX9_copies_18 rfl (lv_at hl 3 rfl) ?_
    refine lv_iadd hx hb dX9_copies_19 ?_
    refine lv_aload_n hx hb dX9_copies_20 rfl (lv_at hl 0 rfl) ?_
    refine mf_X9_7 C K hP kr_0 dX9_copies_21 ?_
    refine lv_sipush (v := 177) hx hb dX9_copies_24 (by decide) ?_
    refine lv_iload_n hx hb dX9_copies_27 rfl (lv_at hl 1 rfl) ?_
    refine lv_imul hx hb dX9_copies_28 ?_
    refine lv_iload_n hx hb dX9_copies_29 rfl (lv_at hl 3 rfl) ?_
    refine lv_iadd hx hb dX9_copies_30 ?_
    obtain ⟨g2, h⟩ := mc_gd h
    refine ma_l16 hC K hP kr_1 g2 dX9_copies_31 ?_
    obtain ⟨g3, h⟩ := mc_gd h
    obtain ⟨I4, eI4, h⟩ := mc_bn_e h
    refine ma_s16 hC K hP hS kr_1 g3 eI4 dX9_copies_32 (fun H locs hP hS => ?_)
    obtain ⟨x5, ex5, h⟩ := mc_bn_e h
    refine lv_iinc (v := x5) (lv' := [(3, .int x5), (0, .ref (w.2.2.1 0)), (1, .int v1), (2, .int v2)]) hx hb dX9_copies_33 hl (k := 3) rfl (by rw [ex5]; rfl) (by decide) rfl (fun ls hl => ?_)
    refine lv_goto (tgt := 2) hx hb dX9_copies_36 (by decide) ?_
    exact hk2 I4 v1 v2 x5 h  hP hS (lv_sub hl [1, 2, 3, 0] rfl)
theorem bk_X9_copies_L2 {p : Program} {l : Launch} {e : Env} {s : State} {m : MethodId} {args : Array Value} {below : List Frame} {meth : Method} {c : Code} (C : CallFix p m c cX9_copies 4 s args mc_big RX9) (hr : meth.sig.returnType = none) (hlk : meth.locks = false) {w : mc_w} (K : mc_K mr_k 3 w s) {R : Nat → Nat → Option Nat} {F : Nat} {Iz : Nat → Nat → Int32} : ∀ n : Nat, ∀ (I : Nat → Nat → Int32) (v1 : Int32) (v2 : Int32) (v3 : Int32), mi_X9_copies_L2 F n I v1 v2 v3 = some Iz → ∀ {H : Heap} {locs : List Loc} {ls : Array Slot}, mc_P mr_k 3 w I R H → va_S (mc_A 3 w) s.heap H locs → lv_has ls 4 [(0, .ref (w.2.2.1 0)), (1, .int v1), (2, .int v2), (3, .int v3)] → W p l e ({ frames := 0, cells := 0, slots := 0, locals := 0 } : Room) s m args below meth c H locs 0 0 (MQ below (mc_Q none (mc_B mr_k 3 w Iz R) (mc_A 3 w)) args s 0 0 (mc_A 3 w)) (F0 m 2 ls []) := by
  intro n
  induction n with
  | zero =>
    intro I v1 v2 v3 h
    cases h
  | succ n ih =>
    intro I v1 v2 v3 h
    exact bk_X9_copies_B2 C hr hlk K  ih I v1 v2 v3 h
set_option maxHeartbeats 4000000 in
set_option maxRecDepth 100000 in
theorem ct_X9_copies (l : Launch) {w : mc_w} {I : Nat → Nat → Int32} {R : Nat → Nat → Option Nat} {F : Nat} {v1 : Int32} {v2 : Int32} {Iz : Nat → Nat → Int32} (h : mi_X9_copies F I v1 v2 = some Iz) : Met l yX9_copies (Cond.code yX9_copies cX9_copies 4 none :: mc_big) ({ frames := 0, cells := 0, slots := 0, locals := 0 } : Room) (va_Pc [.ref (w.2.2.1 0), .int v1, .int v2] (mc_B mr_k 3 w I R)) (mc_Q none (mc_B mr_k 3 w Iz R) (mc_A 3 w)) 0 0 (mc_A 3 w) := by
  refine Met.ofW (cc := cX9_copies) (maxL := 4) (ret := none) (by decide) rfl ?_
  intro p e s m args below meth c s₁ B hml hv
  obtain ⟨rfl, hP, K⟩ := hv
  have hown : s.vm.findClass RX9 = some m.cls := findClass_of_methodNamed B.named
  have C : CallFix p m c cX9_copies 4 s _ mc_big RX9 := ⟨B.exec, B.bytes, hml, hown, fun w hw => atoms_spec B.pre w (List.mem_cons_of_mem _ hw)⟩
  have hx := C.1
  have hb := C.2.1
  have hC := And.intro C.1 C.2.1
  have hr := B.returns
  have hlk := B.notSynchronized
  have hS : va_S (mc_A 3 w) s.heap s.heap [] := va_S.rf
  have hl := lv_entry ([.ref (w.2.2.1 0), .int v1, .int v2]) (n := 4) (Nat.le_of_ble_eq_true rfl)
  rw [lg_entry_eq]
  generalize (lg_sl ([.ref (w.2.2.1 0), .int v1, .int v2]) ++ List.replicate (4 - (lg_sl ([.ref (w.2.2.1 0), .int v1, .int v2])).length) Slot.unset).toArray = ls at hl ⊢
  have hl : lv_has ls 4 [(0, .ref (w.2.2.1 0)), (1, .int v1), (2, .int v2)] := hl
  unfold mi_X9_copies at h
  refine lv_iconst (v := 0) hx hb dX9_copies_0 (by decide) ?_
  refine lv_istore_n (i := 3) (lv' := [(3, .int 0), (0, .ref (w.2.2.1 0)), (1, .int v1), (2, .int v2)]) hx hb dX9_copies_1 rfl hl (by decide) rfl (fun ls hl => ?_)
  exact bk_X9_copies_L2 C hr hlk K  F I v1 v2 0 h  hP hS (lv_sub hl [1, 2, 3, 0] rfl)
set_option maxHeartbeats 4000000 in
set_option maxRecDepth 100000 in
theorem bk_X9_records_J39 {p : Program} {l : Launch} {e : Env} {s : State} {m : MethodId} {args : Array Value} {below : List Frame} {meth : Method} {c : Code} (C : CallFix p m c cX9_records 3 s args mc_big RX9) (hr : meth.sig.returnType = none) (hlk : meth.locks = false) {w : mc_w} (K : mc_K mr_k 3 w s) {R : Nat → Nat → Option Nat} {F : Nat} {Iz : Nat → Nat → Int32} : ∀ (I : Nat → Nat → Int32) (v1 : Int32), mi_X9_records_J39 F I v1 = some Iz → ∀ {H : Heap} {locs : List Loc} {ls : Array Slot}, mc_P mr_k 3 w I R H → va_S (mc_A 3 w) s.heap H locs → lv_has ls 3 [(0, .ref (w.2.2.1 0)), (1, .int v1)] → W p l e ({ frames := 1, cells := 0, slots := 0, locals := 23 } : Room) s m args below meth c H locs 0 0 (MQ below (mc_Q none (mc_B mr_k 3 w Iz R) (mc_A 3 w)) args s 0 0 (mc_A 3 w)) (F0 m 39 ls []) := by
  intro I v1 h  H locs ls hP hS hl
  have hx := C.1
  have hb := C.2.1
  have hC := And.intro C.1 C.2.1
  unfold mi_X9_records_J39 at h
  refine lv_aload_n hx hb dX9_records_39 rfl (lv_at hl 0 rfl) ?_
  refine lv_dup hx hb dX9_records_40 rfl ?_
  refine mf_X9_23 C K hP kr_0 dX9_records_41 ?_
  refine lv_iconst (v := 1) hx hb dX9_records_44 (by decide) ?_
  refine lv_iadd hx hb dX9_records_45 ?_
  obtain ⟨I2, eI2, h⟩ := mc_bn_e h
  refine mp_X9_23 C K hP hS kr_0 eI2 dX9_records_46 (fun H locs hP hS => ?_)
  refine lv_aload_n hx hb dX9_records_49 rfl (lv_at hl 0 rfl) ?_
  refine lv_iload_n hx hb dX9_records_50 rfl (lv_at hl 1 rfl) ?_
  refine lv_aload_n hx hb dX9_records_51 rfl (lv_at hl 0 rfl) ?_
  refine mf_X9_23 C K hP kr_0 dX9_records_52 ?_
  obtain ⟨I3, e4, h⟩ := mc_ob_e h
  refine mg_Vv (As := [.int v1, .int (I2 0 1)]) (rest := []) (ct_X9_copies l (w := w) (I := I2) (R := R) e4) C K hP hS hl.1 kr_0 (by decide) rfl rfl ml_X9_26 wy_X9_copies wd_X9_copies rfl rfl rfl ⟨Nat.le_of_ble_eq_true rfl, Nat.le_of_ble_eq_true rfl⟩ (Nat.le_of_ble_eq_true rfl) ⟨Nat.zero_le _, Nat.zero_le _⟩ dX9_records_55 (fun H locs hP hS => ?_)
  cases h
  exact mt_v hC hr hlk K hP hS dX9_records_58
set_option maxHeartbeats 4000000 in
set_option maxRecDepth 100000 in
theorem bk_X9_records_B10 {p : Program} {l : Launch} {e : Env} {s : State} {m : MethodId} {args : Array Value} {below : List Frame} {meth : Method} {c : Code} (C : CallFix p m c cX9_records 3 s args mc_big RX9) (hr : meth.sig.returnType = none) (hlk : meth.locks = false) {w : mc_w} (K : mc_K mr_k 3 w s) {R : Nat → Nat → Option Nat} {F : Nat} {Iz : Nat → Nat → Int32} {k10 : (Nat → Nat → Int32) → Int32 → Int32 → (Option ((Nat → Nat → Int32)))} (hk10 : ∀ (I : Nat → Nat → Int32) (v1 : Int32) (v2 : Int32), k10 I v1 v2 = some Iz → ∀ {H : Heap} {locs : List Loc} {ls : Array Slot}, mc_P mr_k 3 w I R H → va_S (mc_A 3 w) s.heap H locs → lv_has ls 3 [(0, .ref (w.2.2.1 0)), (1, .int v1), (2, .int v2)] → W p l e ({ frames := 1, cells := 0, slots := 0, locals := 23 } : Room) s m args below meth c H locs 0 0 (MQ below (mc_Q none (mc_B mr_k 3 w Iz R) (mc_A 3 w)) args s 0 0 (mc_A 3 w)) (F0 m 10 ls [])) : ∀ (I : Nat → Nat → Int32) (v1 : Int32) (v2 : Int32), mi_X9_records_B10 k10 F I v1 v2 = some Iz → ∀ {H : Heap} {locs : List Loc} {ls : Array Slot}, mc_P mr_k 3 w I R H → va_S (mc_A 3 w) s.heap H locs → lv_has ls 3 [(0, .ref (w.2.2.1 0)), (1, .int v1), (2, .int v2)] → W p l e ({ frames := 1, cells := 0, slots := 0, locals := 23 } : Room) s m args below meth c H locs 0 0 (MQ below (mc_Q none (mc_B mr_k 3 w Iz R) (mc_A 3 w)) args s 0 0 (mc_A 3 w)) (F0 m 10 ls []) := by
  intro I v1 v2 h  H locs ls hP hS hl
  have hx := C.1
  have hb := C.2.1
  have hC := And.intro C.1 C.2.1
  unfold mi_X9_records_B10 at h
  refine lv_iload_n hx hb dX9_records_10 rfl (lv_at hl 2 rfl) ?_
  refine lv_iconst (v := 4) hx hb dX9_records_11 (by decide) ?_
  refine lv_icmp_ge (tgt := 29) hx hb dX9_records_12 (by decide) (fun c5 => ?_) (fun c5 => ?_)
  · replace h := mc_it h c5
    refine lv_aload_n hx hb dX9_records_29 rfl (lv_at hl 0 rfl) ?_
    refine lv_dup hx hb dX9_records_30 rfl ?_
    refine mf_X9_23 C K hP kr_0 dX9_records_31 ?_
    refine lv_iconst (v := 1) hx hb dX9_records_34 (by decide) ?_
    refine lv_isub hx hb dX9_records_35 ?_
    obtain ⟨I6, eI6, h⟩ := mc_bn_e h
    refine mp_X9_23 C K hP hS kr_0 eI6 dX9_records_36 (fun H locs hP hS => ?_)
    exact bk_X9_records_J39 C hr hlk K  I6 v1 h  hP hS (lv_sub hl [0, 1] rfl)
  · replace h := mc_ie h c5
    refine lv_aload_n hx hb dX9_records_15 rfl (lv_at hl 0 rfl) ?_
    refine lv_iload_n hx hb dX9_records_16 rfl (lv_at hl 2 rfl) ?_
    refine lv_iconst (v := 1) hx hb dX9_records_17 (by decide) ?_
    refine lv_iadd hx hb dX9_records_18 ?_
    refine lv_iload_n hx hb dX9_records_19 rfl (lv_at hl 2 rfl) ?_
    obtain ⟨I7, e8, h⟩ := mc_ob_e h
    refine mg_Vv (As := [.int (v2 + 1), .int v2]) (rest := []) (ct_X9_copies l (w := w) (I := I) (R := R) e8) C K hP hS hl.1 kr_0 (by decide) rfl rfl ml_X9_26 wy_X9_copies wd_X9_copies rfl rfl rfl ⟨Nat.le_of_ble_eq_true rfl, Nat.le_of_ble_eq_true rfl⟩ (Nat.le_of_ble_eq_true rfl) ⟨Nat.zero_le _, Nat.zero_le _⟩ dX9_records_20 (fun H locs hP hS => ?_)
    obtain ⟨x9, ex9, h⟩ := mc_bn_e h
    refine lv_iinc (v := x9) (lv' := [(2, .int x9), (0, .ref (w.2.2.1 0)), (1, .int v1)]) hx hb dX9_records_23 hl (k := 2) rfl (by rw [ex9]; rfl) (by decide) rfl (fun ls hl => ?_)
    refine lv_goto (tgt := 10) hx hb dX9_records_26 (by decide) ?_
    exact hk10 I7 v1 x9 h  hP hS (lv_sub hl [1, 2, 0] rfl)
theorem bk_X9_records_L10 {p : Program} {l : Launch} {e : Env} {s : State} {m : MethodId} {args : Array Value} {below : List Frame} {meth : Method} {c : Code} (C : CallFix p m c cX9_records 3 s args mc_big RX9) (hr : meth.sig.returnType = none) (hlk : meth.locks = false) {w : mc_w} (K : mc_K mr_k 3 w s) {R : Nat → Nat → Option Nat} {F : Nat} {Iz : Nat → Nat → Int32} : ∀ n : Nat, ∀ (I : Nat → Nat → Int32) (v1 : Int32) (v2 : Int32), mi_X9_records_L10 F n I v1 v2 = some Iz → ∀ {H : Heap} {locs : List Loc} {ls : Array Slot}, mc_P mr_k 3 w I R H → va_S (mc_A 3 w) s.heap H locs → lv_has ls 3 [(0, .ref (w.2.2.1 0)), (1, .int v1), (2, .int v2)] → W p l e ({ frames := 1, cells := 0, slots := 0, locals := 23 } : Room) s m args below meth c H locs 0 0 (MQ below (mc_Q none (mc_B mr_k 3 w Iz R) (mc_A 3 w)) args s 0 0 (mc_A 3 w)) (F0 m 10 ls []) := by
  intro n
  induction n with
  | zero =>
    intro I v1 v2 h
    cases h
  | succ n ih =>
    intro I v1 v2 h
    exact bk_X9_records_B10 C hr hlk K  ih I v1 v2 h
set_option maxHeartbeats 4000000 in
set_option maxRecDepth 100000 in
theorem ct_X9_records (l : Launch) {w : mc_w} {I : Nat → Nat → Int32} {R : Nat → Nat → Option Nat} {F : Nat} {v1 : Int32} {Iz : Nat → Nat → Int32} (h : mi_X9_records F I v1 = some Iz) : Met l yX9_records (Cond.code yX9_records cX9_records 3 none :: mc_big) ({ frames := 1, cells := 0, slots := 0, locals := 23 } : Room) (va_Pc [.ref (w.2.2.1 0), .int v1] (mc_B mr_k 3 w I R)) (mc_Q none (mc_B mr_k 3 w Iz R) (mc_A 3 w)) 0 0 (mc_A 3 w) := by
  refine Met.ofW (cc := cX9_records) (maxL := 3) (ret := none) (by decide) rfl ?_
  intro p e s m args below meth c s₁ B hml hv
  obtain ⟨rfl, hP, K⟩ := hv
  have hown : s.vm.findClass RX9 = some m.cls := findClass_of_methodNamed B.named
  have C : CallFix p m c cX9_records 3 s _ mc_big RX9 := ⟨B.exec, B.bytes, hml, hown, fun w hw => atoms_spec B.pre w (List.mem_cons_of_mem _ hw)⟩
  have hx := C.1
  have hb := C.2.1
  have hC := And.intro C.1 C.2.1
  have hr := B.returns
  have hlk := B.notSynchronized
  have hS : va_S (mc_A 3 w) s.heap s.heap [] := va_S.rf
  have hl := lv_entry ([.ref (w.2.2.1 0), .int v1]) (n := 3) (Nat.le_of_ble_eq_true rfl)
  rw [lg_entry_eq]
  generalize (lg_sl ([.ref (w.2.2.1 0), .int v1]) ++ List.replicate (3 - (lg_sl ([.ref (w.2.2.1 0), .int v1])).length) Slot.unset).toArray = ls at hl ⊢
  have hl : lv_has ls 3 [(0, .ref (w.2.2.1 0)), (1, .int v1)] := hl
  unfold mi_X9_records at h
  refine lv_aload_n hx hb dX9_records_0 rfl (lv_at hl 0 rfl) ?_
  refine mf_X9_23 C K hP kr_0 dX9_records_1 ?_
  refine lv_iconst (v := 4) hx hb dX9_records_4 (by decide) ?_
  refine lv_icmp_ne (tgt := 39) hx hb dX9_records_5 (by decide) (fun c1 => ?_) (fun c1 => ?_)
  · replace h := mc_ie h c1
    exact bk_X9_records_J39 C hr hlk K  I v1 h  hP hS (lv_sub hl [0, 1] rfl)
  · replace h := mc_it h c1
    refine lv_iconst (v := 1) hx hb dX9_records_8 (by decide) ?_
    refine lv_istore_n (i := 2) (lv' := [(2, .int 1), (0, .ref (w.2.2.1 0)), (1, .int v1)]) hx hb dX9_records_9 rfl hl (by decide) rfl (fun ls hl => ?_)
    exact bk_X9_records_L10 C hr hlk K  F I v1 1 h  hP hS (lv_sub hl [1, 2, 0] rfl)
set_option maxHeartbeats 4000000 in
set_option maxRecDepth 100000 in
theorem ct_X9_bottleAt (l : Launch) {w : mc_w} {I : Nat → Nat → Int32} {R : Nat → Nat → Option Nat} {v0 : Int32} {v1 : Int32} {rz : Int32} (h : mi_X9_bottleAt v0 v1 = rz) : Met l yX9_bottleAt (Cond.code yX9_bottleAt cX9_bottleAt 2 (some .int) :: mc_big) ({ frames := 0, cells := 0, slots := 0, locals := 0 } : Room) (va_Pc [.int v0, .int v1] (mc_B mr_k 3 w I R)) (mc_Q (some (.int rz)) (mc_B mr_k 3 w I R) (mc_A 3 w)) 0 0 (mc_A 3 w) := by
  refine Met.ofW (cc := cX9_bottleAt) (maxL := 2) (ret := (some .int)) (by decide) rfl ?_
  intro p e s m args below meth c s₁ B hml hv
  obtain ⟨rfl, hP, K⟩ := hv
  have hown : s.vm.findClass RX9 = some m.cls := findClass_of_methodNamed B.named
  have C : CallFix p m c cX9_bottleAt 2 s _ mc_big RX9 := ⟨B.exec, B.bytes, hml, hown, fun w hw => atoms_spec B.pre w (List.mem_cons_of_mem _ hw)⟩
  have hx := C.1
  have hb := C.2.1
  have hC := And.intro C.1 C.2.1
  have hr := B.returns
  have hlk := B.notSynchronized
  have hS : va_S (mc_A 3 w) s.heap s.heap [] := va_S.rf
  have hl := lv_entry ([.int v0, .int v1]) (n := 2) (Nat.le_of_ble_eq_true rfl)
  rw [lg_entry_eq]
  generalize (lg_sl ([.int v0, .int v1]) ++ List.replicate (2 - (lg_sl ([.int v0, .int v1])).length) Slot.unset).toArray = ls at hl ⊢
  have hl : lv_has ls 2 [(0, .int v0), (1, .int v1)] := hl
  unfold mi_X9_bottleAt at h
  refine lv_iload_n hx hb dX9_bottleAt_0 rfl (lv_at hl 0 rfl) ?_
  refine lv_bipush (v := 33) hx hb dX9_bottleAt_1 (by decide) ?_
  refine lv_iadd hx hb dX9_bottleAt_3 ?_
  refine lv_bipush (v := 12) hx hb dX9_bottleAt_4 (by decide) ?_
  refine lv_iload_n hx hb dX9_bottleAt_6 rfl (lv_at hl 1 rfl) ?_
  refine lv_imul hx hb dX9_bottleAt_7 ?_
  refine lv_iadd hx hb dX9_bottleAt_8 ?_
  cases h
  exact mt_i hC hr hlk K hP hS dX9_bottleAt_9
set_option maxHeartbeats 4000000 in
set_option maxRecDepth 100000 in
theorem ct_X9_messengerAt (l : Launch) {w : mc_w} {I : Nat → Nat → Int32} {R : Nat → Nat → Option Nat} {v0 : Int32} {v1 : Int32} {rz : Int32} (h : mi_X9_messengerAt v0 v1 = rz) : Met l yX9_messengerAt (Cond.code yX9_messengerAt cX9_messengerAt 2 (some .int) :: mc_big) ({ frames := 0, cells := 0, slots := 0, locals := 0 } : Room) (va_Pc [.int v0, .int v1] (mc_B mr_k 3 w I R)) (mc_Q (some (.int rz)) (mc_B mr_k 3 w I R) (mc_A 3 w)) 0 0 (mc_A 3 w) := by
  refine Met.ofW (cc := cX9_messengerAt) (maxL := 2) (ret := (some .int)) (by decide) rfl ?_
  intro p e s m args below meth c s₁ B hml hv
  obtain ⟨rfl, hP, K⟩ := hv
  have hown : s.vm.findClass RX9 = some m.cls := findClass_of_methodNamed B.named
  have C : CallFix p m c cX9_messengerAt 2 s _ mc_big RX9 := ⟨B.exec, B.bytes, hml, hown, fun w hw => atoms_spec B.pre w (List.mem_cons_of_mem _ hw)⟩
  have hx := C.1
  have hb := C.2.1
  have hC := And.intro C.1 C.2.1
  have hr := B.returns
  have hlk := B.notSynchronized
  have hS : va_S (mc_A 3 w) s.heap s.heap [] := va_S.rf
  have hl := lv_entry ([.int v0, .int v1]) (n := 2) (Nat.le_of_ble_eq_true rfl)
  rw [lg_entry_eq]
  generalize (lg_sl ([.int v0, .int v1]) ++ List.replicate (2 - (lg_sl ([.int v0, .int v1])).length) Slot.unset).toArray = ls at hl ⊢
  have hl : lv_has ls 2 [(0, .int v0), (1, .int v1)] := hl
  unfold mi_X9_messengerAt at h
  refine lv_iload_n hx hb dX9_messengerAt_0 rfl (lv_at hl 0 rfl) ?_
  refine lv_sipush (v := 153) hx hb dX9_messengerAt_1 (by decide) ?_
  refine lv_iadd hx hb dX9_messengerAt_4 ?_
  refine lv_iconst (v := 2) hx hb dX9_messengerAt_5 (by decide) ?_
  refine lv_iload_n hx hb dX9_messengerAt_6 rfl (lv_at hl 1 rfl) ?_
  refine lv_imul hx hb dX9_messengerAt_7 ?_
  refine lv_iadd hx hb dX9_messengerAt_8 ?_
  cases h
  exact mt_i hC hr hlk K hP hS dX9_messengerAt_9
set_option maxHeartbeats 4000000 in
set_option maxRecDepth 100000 in
theorem ct_X9_counted (l : Launch) {w : mc_w} {I : Nat → Nat → Int32} {R : Nat → Nat → Option Nat} {v1 : Int32} {rz : Int32} (h : mi_X9_counted I v1 = some rz) : Met l yX9_counted (Cond.code yX9_counted cX9_counted 3 (some .int) :: mc_big) ({ frames := 0, cells := 0, slots := 0, locals := 0 } : Room) (va_Pc [.ref (w.2.2.1 0), .int v1] (mc_B mr_k 3 w I R)) (mc_Q (some (.int rz)) (mc_B mr_k 3 w I R) (mc_A 3 w)) 0 0 (mc_A 3 w) := by
  refine Met.ofW (cc := cX9_counted) (maxL := 3) (ret := (some .int)) (by decide) rfl ?_
  intro p e s m args below meth c s₁ B hml hv
  obtain ⟨rfl, hP, K⟩ := hv
  have hown : s.vm.findClass RX9 = some m.cls := findClass_of_methodNamed B.named
  have C : CallFix p m c cX9_counted 3 s _ mc_big RX9 := ⟨B.exec, B.bytes, hml, hown, fun w hw => atoms_spec B.pre w (List.mem_cons_of_mem _ hw)⟩
  have hx := C.1
  have hb := C.2.1
  have hC := And.intro C.1 C.2.1
  have hr := B.returns
  have hlk := B.notSynchronized
  have hS : va_S (mc_A 3 w) s.heap s.heap [] := va_S.rf
  have hl := lv_entry ([.ref (w.2.2.1 0), .int v1]) (n := 3) (Nat.le_of_ble_eq_true rfl)
  rw [lg_entry_eq]
  generalize (lg_sl ([.ref (w.2.2.1 0), .int v1]) ++ List.replicate (3 - (lg_sl ([.ref (w.2.2.1 0), .int v1])).length) Slot.unset).toArray = ls at hl ⊢
  have hl : lv_has ls 3 [(0, .ref (w.2.2.1 0)), (1, .int v1)] := hl
  unfold mi_X9_counted at h
  refine lv_aload_n hx hb dX9_counted_0 rfl (lv_at hl 0 rfl) ?_
  refine mf_X9_7 C K hP kr_0 dX9_counted_1 ?_
  refine lv_iload_n hx hb dX9_counted_4 rfl (lv_at hl 1 rfl) ?_
  refine lv_iconst (v := 2) hx hb dX9_counted_5 (by decide) ?_
  refine lv_iadd hx hb dX9_counted_6 ?_
  obtain ⟨g1, h⟩ := mc_gd h
  refine ma_l16 hC K hP kr_1 g1 dX9_counted_7 ?_
  refine lv_iconst (v := 2) hx hb dX9_counted_8 (by decide) ?_
  refine lv_aload_n hx hb dX9_counted_9 rfl (lv_at hl 0 rfl) ?_
  refine mf_X9_7 C K hP kr_0 dX9_counted_10 ?_
  refine lv_iload_n hx hb dX9_counted_13 rfl (lv_at hl 1 rfl) ?_
  refine lv_iconst (v := 3) hx hb dX9_counted_14 (by decide) ?_
  refine lv_iadd hx hb dX9_counted_15 ?_
  obtain ⟨g2, h⟩ := mc_gd h
  refine ma_l16 hC K hP kr_1 g2 dX9_counted_16 ?_
  refine lv_imul hx hb dX9_counted_17 ?_
  refine lv_iadd hx hb dX9_counted_18 ?_
  obtain ⟨x3, ex3, h⟩ := mc_bn_e h
  refine mv_top ex3 ?_
  refine lv_istore_n (i := 2) (lv' := [(2, .int x3), (0, .ref (w.2.2.1 0)), (1, .int v1)]) hx hb dX9_counted_19 rfl hl (by decide) rfl (fun ls hl => ?_)
  refine lv_iload_n hx hb dX9_counted_20 rfl (lv_at hl 0 rfl) ?_
  refine lv_bipush (v := 6) hx hb dX9_counted_21 (by decide) ?_
  refine lv_icmp_le (tgt := 31) hx hb dX9_counted_23 (by decide) (fun c4 => ?_) (fun c4 => ?_)
  · replace h := mc_it h c4
    refine lv_iload_n hx hb dX9_counted_31 rfl (lv_at hl 0 rfl) ?_
    cases h
    exact mt_i hC hr hlk K hP hS dX9_counted_32
  · replace h := mc_ie h c4
    refine lv_bipush (v := 6) hx hb dX9_counted_26 (by decide) ?_
    refine lv_goto (tgt := 32) hx hb dX9_counted_28 (by decide) ?_
    cases h
    exact mt_i hC hr hlk K hP hS dX9_counted_32
set_option maxHeartbeats 4000000 in
set_option maxRecDepth 100000 in
theorem ct_X9_factor (l : Launch) {w : mc_w} {I : Nat → Nat → Int32} {R : Nat → Nat → Option Nat} {v0 : Int32} {rz : Int32} (h : mi_X9_factor v0 = rz) : Met l yX9_factor (Cond.code yX9_factor cX9_factor 1 (some .int) :: mc_big) ({ frames := 0, cells := 0, slots := 0, locals := 0 } : Room) (va_Pc [.int v0] (mc_B mr_k 3 w I R)) (mc_Q (some (.int rz)) (mc_B mr_k 3 w I R) (mc_A 3 w)) 0 0 (mc_A 3 w) := by
  refine Met.ofW (cc := cX9_factor) (maxL := 1) (ret := (some .int)) (by decide) rfl ?_
  intro p e s m args below meth c s₁ B hml hv
  obtain ⟨rfl, hP, K⟩ := hv
  have hown : s.vm.findClass RX9 = some m.cls := findClass_of_methodNamed B.named
  have C : CallFix p m c cX9_factor 1 s _ mc_big RX9 := ⟨B.exec, B.bytes, hml, hown, fun w hw => atoms_spec B.pre w (List.mem_cons_of_mem _ hw)⟩
  have hx := C.1
  have hb := C.2.1
  have hC := And.intro C.1 C.2.1
  have hr := B.returns
  have hlk := B.notSynchronized
  have hS : va_S (mc_A 3 w) s.heap s.heap [] := va_S.rf
  have hl := lv_entry ([.int v0]) (n := 1) (Nat.le_of_ble_eq_true rfl)
  rw [lg_entry_eq]
  generalize (lg_sl ([.int v0]) ++ List.replicate (1 - (lg_sl ([.int v0])).length) Slot.unset).toArray = ls at hl ⊢
  have hl : lv_has ls 1 [(0, .int v0)] := hl
  unfold mi_X9_factor at h
  refine lv_iload_n hx hb dX9_factor_0 rfl (lv_at hl 0 rfl) ?_
  by_cases c1 : v0 = 0
  · replace h := mc_it h c1
    refine lv_tableIn (off := 39) (tgt := 40) hx hb dX9_factor_1 (by rw [c1]; decide) (by rw [c1]; decide) (by rw [c1]; decide) (by decide) ?_
    refine lv_sipush (v := 1000) hx hb dX9_factor_40 (by decide) ?_
    cases h
    exact mt_i hC hr hlk K hP hS dX9_factor_43
  replace h := mc_ie h c1
  by_cases c2 : v0 = 1
  · replace h := mc_it h c2
    refine lv_tableIn (off := 43) (tgt := 44) hx hb dX9_factor_1 (by rw [c2]; decide) (by rw [c2]; decide) (by rw [c2]; decide) (by decide) ?_
    refine lv_sipush (v := 985) hx hb dX9_factor_44 (by decide) ?_
    cases h
    exact mt_i hC hr hlk K hP hS dX9_factor_47
  replace h := mc_ie h c2
  by_cases c3 : v0 = 2
  · replace h := mc_it h c3
    refine lv_tableIn (off := 47) (tgt := 48) hx hb dX9_factor_1 (by rw [c3]; decide) (by rw [c3]; decide) (by rw [c3]; decide) (by decide) ?_
    refine lv_sipush (v := 940) hx hb dX9_factor_48 (by decide) ?_
    cases h
    exact mt_i hC hr hlk K hP hS dX9_factor_51
  replace h := mc_ie h c3
  by_cases c4 : v0 = 3
  · replace h := mc_it h c4
    refine lv_tableIn (off := 51) (tgt := 52) hx hb dX9_factor_1 (by rw [c4]; decide) (by rw [c4]; decide) (by rw [c4]; decide) (by decide) ?_
    refine lv_sipush (v := 866) hx hb dX9_factor_52 (by decide) ?_
    cases h
    exact mt_i hC hr hlk K hP hS dX9_factor_55
  replace h := mc_ie h c4
  by_cases c5 : v0 = 4
  · replace h := mc_it h c5
    refine lv_tableIn (off := 55) (tgt := 56) hx hb dX9_factor_1 (by rw [c5]; decide) (by rw [c5]; decide) (by rw [c5]; decide) (by decide) ?_
    refine lv_sipush (v := 766) hx hb dX9_factor_56 (by decide) ?_
    cases h
    exact mt_i hC hr hlk K hP hS dX9_factor_59
  replace h := mc_ie h c5
  by_cases c6 : v0 = 5
  · replace h := mc_it h c6
    refine lv_tableIn (off := 59) (tgt := 60) hx hb dX9_factor_1 (by rw [c6]; decide) (by rw [c6]; decide) (by rw [c6]; decide) (by decide) ?_
    refine lv_sipush (v := 643) hx hb dX9_factor_60 (by decide) ?_
    cases h
    exact mt_i hC hr hlk K hP hS dX9_factor_63
  replace h := mc_ie h c6
  refine lv_tableOut (tgt := 64) hx hb dX9_factor_1 (mc_sw (lo := 0) (hi := 5) (fun v h1 h2 => by rcases (show v = 0 ∨ v = 1 ∨ v = 2 ∨ v = 3 ∨ v = 4 ∨ v = 5 by omega) with rfl | rfl | rfl | rfl | rfl | rfl <;> first | exact ⟨0, by decide, c1⟩ | exact ⟨1, by decide, c2⟩ | exact ⟨2, by decide, c3⟩ | exact ⟨3, by decide, c4⟩ | exact ⟨4, by decide, c5⟩ | exact ⟨5, by decide, c6⟩)) (by decide) ?_
  refine lv_sipush (v := 500) hx hb dX9_factor_64 (by decide) ?_
  cases h
  exact mt_i hC hr hlk K hP hS dX9_factor_67
set_option maxHeartbeats 4000000 in
set_option maxRecDepth 100000 in
theorem ct_X9_deep (l : Launch) {w : mc_w} {I : Nat → Nat → Int32} {R : Nat → Nat → Option Nat} {v0 : Int32} {v1 : Int32} {rz : Int32} (h : mi_X9_deep v0 v1 = rz) : Met l yX9_deep (Cond.code yX9_deep cX9_deep 2 (some .int) :: mc_big) ({ frames := 1, cells := 0, slots := 0, locals := 20 } : Room) (va_Pc [.int v0, .int v1] (mc_B mr_k 3 w I R)) (mc_Q (some (.int rz)) (mc_B mr_k 3 w I R) (mc_A 3 w)) 0 0 (mc_A 3 w) := by
  refine Met.ofW (cc := cX9_deep) (maxL := 2) (ret := (some .int)) (by decide) rfl ?_
  intro p e s m args below meth c s₁ B hml hv
  obtain ⟨rfl, hP, K⟩ := hv
  have hown : s.vm.findClass RX9 = some m.cls := findClass_of_methodNamed B.named
  have C : CallFix p m c cX9_deep 2 s _ mc_big RX9 := ⟨B.exec, B.bytes, hml, hown, fun w hw => atoms_spec B.pre w (List.mem_cons_of_mem _ hw)⟩
  have hx := C.1
  have hb := C.2.1
  have hC := And.intro C.1 C.2.1
  have hr := B.returns
  have hlk := B.notSynchronized
  have hS : va_S (mc_A 3 w) s.heap s.heap [] := va_S.rf
  have hl := lv_entry ([.int v0, .int v1]) (n := 2) (Nat.le_of_ble_eq_true rfl)
  rw [lg_entry_eq]
  generalize (lg_sl ([.int v0, .int v1]) ++ List.replicate (2 - (lg_sl ([.int v0, .int v1])).length) Slot.unset).toArray = ls at hl ⊢
  have hl : lv_has ls 2 [(0, .int v0), (1, .int v1)] := hl
  unfold mi_X9_deep at h
  refine lv_iload_n hx hb dX9_deep_0 rfl (lv_at hl 0 rfl) ?_
  refine lv_iload_n hx hb dX9_deep_1 rfl (lv_at hl 1 rfl) ?_
  refine mg_Si (As := [.int v1]) (rest := [.int v0]) (ct_X9_factor l (w := w) (I := I) (R := R) rfl) C K hP hS hl.1 ml_X9_30 wy_X9_factor wd_X9_factor rfl rfl rfl ⟨Nat.le_of_ble_eq_true rfl, Nat.le_of_ble_eq_true rfl⟩ (Nat.le_of_ble_eq_true rfl) ⟨Nat.zero_le _, Nat.zero_le _⟩ dX9_deep_2 (fun H locs hP hS => ?_)
  refine lv_imul hx hb dX9_deep_5 ?_
  refine lv_sipush (v := 1000) hx hb dX9_deep_6 (by decide) ?_
  refine lv_idiv hx hb dX9_deep_9 (by decide) ?_
  cases h
  exact mt_i hC hr hlk K hP hS dX9_deep_10
set_option maxHeartbeats 4000000 in
set_option maxRecDepth 100000 in
theorem ct_X9_isInWater (l : Launch) {w : mc_w} {I : Nat → Nat → Int32} {R : Nat → Nat → Option Nat} {v1 : Int32} {v2 : Int32} {rz : Int32} (h : mi_X9_isInWater I v1 v2 = some rz) : Met l yX9_isInWater (Cond.code yX9_isInWater cX9_isInWater 3 (some .boolean) :: mc_big) ({ frames := 1, cells := 0, slots := 0, locals := 21 } : Room) (va_Pc [.ref (w.2.2.1 0), .int v1, .int v2] (mc_B mr_k 3 w I R)) (mc_Q (some (.int rz)) (fun t => mc_B mr_k 3 w I R t ∧ ¬ (rz ≠ 0 ∧ rz ≠ 1)) (mc_A 3 w)) 0 0 (mc_A 3 w) := by
  refine Met.ofW (cc := cX9_isInWater) (maxL := 3) (ret := (some .boolean)) (by decide) rfl ?_
  intro p e s m args below meth c s₁ B hml hv
  obtain ⟨rfl, hP, K⟩ := hv
  have hown : s.vm.findClass RX9 = some m.cls := findClass_of_methodNamed B.named
  have C : CallFix p m c cX9_isInWater 3 s _ mc_big RX9 := ⟨B.exec, B.bytes, hml, hown, fun w hw => atoms_spec B.pre w (List.mem_cons_of_mem _ hw)⟩
  have hx := C.1
  have hb := C.2.1
  have hC := And.intro C.1 C.2.1
  have hr := B.returns
  have hlk := B.notSynchronized
  have hS : va_S (mc_A 3 w) s.heap s.heap [] := va_S.rf
  have hl := lv_entry ([.ref (w.2.2.1 0), .int v1, .int v2]) (n := 3) (Nat.le_of_ble_eq_true rfl)
  rw [lg_entry_eq]
  generalize (lg_sl ([.ref (w.2.2.1 0), .int v1, .int v2]) ++ List.replicate (3 - (lg_sl ([.ref (w.2.2.1 0), .int v1, .int v2])).length) Slot.unset).toArray = ls at hl ⊢
  have hl : lv_has ls 3 [(0, .ref (w.2.2.1 0)), (1, .int v1), (2, .int v2)] := hl
  unfold mi_X9_isInWater at h
  refine lv_aload_n hx hb dX9_isInWater_0 rfl (lv_at hl 0 rfl) ?_
  refine mf_X9_7 C K hP kr_0 dX9_isInWater_1 ?_
  refine lv_iload_n hx hb dX9_isInWater_4 rfl (lv_at hl 1 rfl) ?_
  refine lv_iload_n hx hb dX9_isInWater_5 rfl (lv_at hl 2 rfl) ?_
  refine mg_Si (As := [.int v1, .int v2]) (rest := [.ref (w.2.2.1 1)]) (ct_X9_bottleAt l (w := w) (I := I) (R := R) rfl) C K hP hS hl.1 ml_X9_34 wy_X9_bottleAt wd_X9_bottleAt rfl rfl rfl ⟨Nat.le_of_ble_eq_true rfl, Nat.le_of_ble_eq_true rfl⟩ (Nat.le_of_ble_eq_true rfl) ⟨Nat.zero_le _, Nat.zero_le _⟩ dX9_isInWater_6 (fun H locs hP hS => ?_)
  obtain ⟨g2, h⟩ := mc_gd h
  refine ma_l16 hC K hP kr_1 g2 dX9_isInWater_9 ?_
  refine lv_aload_n hx hb dX9_isInWater_10 rfl (lv_at hl 0 rfl) ?_
  refine mf_X9_7 C K hP kr_0 dX9_isInWater_11 ?_
  refine lv_iload_n hx hb dX9_isInWater_14 rfl (lv_at hl 1 rfl) ?_
  refine lv_iconst (v := 1) hx hb dX9_isInWater_15 (by decide) ?_
  refine lv_iadd hx hb dX9_isInWater_16 ?_
  obtain ⟨g3, h⟩ := mc_gd h
  refine ma_l16 hC K hP kr_1 g3 dX9_isInWater_17 ?_
  refine lv_icmp_ge (tgt := 25) hx hb dX9_isInWater_18 (by decide) (fun c4 => ?_) (fun c4 => ?_)
  · replace h := mc_it h c4
    refine lv_iconst (v := 0) hx hb dX9_isInWater_25 (by decide) ?_
    cases h
    exact mt_zX hC hr hlk K hP hS (by decide) (by decide) dX9_isInWater_26
  · replace h := mc_ie h c4
    refine lv_iconst (v := 1) hx hb dX9_isInWater_21 (by decide) ?_
    refine lv_goto (tgt := 26) hx hb dX9_isInWater_22 (by decide) ?_
    cases h
    exact mt_zX hC hr hlk K hP hS (by decide) (by decide) dX9_isInWater_26
set_option maxHeartbeats 4000000 in
set_option maxRecDepth 100000 in
theorem ct_X9_metre (l : Launch) {w : mc_w} {I : Nat → Nat → Int32} {R : Nat → Nat → Option Nat} {v1 : Int32} {v2 : Int32} {rz : Int32} (h : mi_X9_metre I v1 v2 = some rz) : Met l yX9_metre (Cond.code yX9_metre cX9_metre 3 (some .int) :: mc_big) ({ frames := 2, cells := 0, slots := 0, locals := 43 } : Room) (va_Pc [.ref (w.2.2.1 0), .int v1, .int v2] (mc_B mr_k 3 w I R)) (mc_Q (some (.int rz)) (mc_B mr_k 3 w I R) (mc_A 3 w)) 0 0 (mc_A 3 w) := by
  refine Met.ofW (cc := cX9_metre) (maxL := 3) (ret := (some .int)) (by decide) rfl ?_
  intro p e s m args below meth c s₁ B hml hv
  obtain ⟨rfl, hP, K⟩ := hv
  have hown : s.vm.findClass RX9 = some m.cls := findClass_of_methodNamed B.named
  have C : CallFix p m c cX9_metre 3 s _ mc_big RX9 := ⟨B.exec, B.bytes, hml, hown, fun w hw => atoms_spec B.pre w (List.mem_cons_of_mem _ hw)⟩
  have hx := C.1
  have hb := C.2.1
  have hC := And.intro C.1 C.2.1
  have hr := B.returns
  have hlk := B.notSynchronized
  have hS : va_S (mc_A 3 w) s.heap s.heap [] := va_S.rf
  have hl := lv_entry ([.ref (w.2.2.1 0), .int v1, .int v2]) (n := 3) (Nat.le_of_ble_eq_true rfl)
  rw [lg_entry_eq]
  generalize (lg_sl ([.ref (w.2.2.1 0), .int v1, .int v2]) ++ List.replicate (3 - (lg_sl ([.ref (w.2.2.1 0), .int v1, .int v2])).length) Slot.unset).toArray = ls at hl ⊢
  have hl : lv_has ls 3 [(0, .ref (w.2.2.1 0)), (1, .int v1), (2, .int v2)] := hl
  unfold mi_X9_metre at h
  refine lv_aload_n hx hb dX9_metre_0 rfl (lv_at hl 0 rfl) ?_
  refine lv_iload_n hx hb dX9_metre_1 rfl (lv_at hl 1 rfl) ?_
  refine lv_iload_n hx hb dX9_metre_2 rfl (lv_at hl 2 rfl) ?_
  obtain ⟨r1, e2, h⟩ := mc_ob_e h
  refine mg_Vz (As := [.int v1, .int v2]) (rest := []) (ct_X9_isInWater l (w := w) (I := I) (R := R) e2) C K hP hS hl.1 kr_0 (by decide) rfl rfl ml_X9_38 wy_X9_isInWater wd_X9_isInWater rfl rfl rfl ⟨Nat.le_of_ble_eq_true rfl, Nat.le_of_ble_eq_true rfl⟩ (Nat.le_of_ble_eq_true rfl) ⟨Nat.zero_le _, Nat.zero_le _⟩ dX9_metre_3 (fun H locs hP z3 hS => ?_)
  refine lv_if_eq (tgt := 31) hx hb dX9_metre_6 (by decide) (fun c4 => ?_) (fun c4 => ?_)
  · replace h := mc_it h c4
    refine lv_iconst (v := 0) hx hb dX9_metre_31 (by decide) ?_
    cases h
    exact mt_i hC hr hlk K hP hS dX9_metre_32
  · replace h := mc_ie h c4
    refine lv_aload_n hx hb dX9_metre_9 rfl (lv_at hl 0 rfl) ?_
    refine mf_X9_7 C K hP kr_0 dX9_metre_10 ?_
    refine lv_iload_n hx hb dX9_metre_13 rfl (lv_at hl 1 rfl) ?_
    refine lv_iconst (v := 1) hx hb dX9_metre_14 (by decide) ?_
    refine lv_iadd hx hb dX9_metre_15 ?_
    obtain ⟨g5, h⟩ := mc_gd h
    refine ma_l16 hC K hP kr_1 g5 dX9_metre_16 ?_
    refine lv_aload_n hx hb dX9_metre_17 rfl (lv_at hl 0 rfl) ?_
    refine mf_X9_7 C K hP kr_0 dX9_metre_18 ?_
    refine lv_iload_n hx hb dX9_metre_21 rfl (lv_at hl 1 rfl) ?_
    refine lv_iload_n hx hb dX9_metre_22 rfl (lv_at hl 2 rfl) ?_
    refine mg_Si (As := [.int v1, .int v2]) (rest := [.ref (w.2.2.1 1), .int (I 1 (v1 + 1).toNatClampNeg)]) (ct_X9_bottleAt l (w := w) (I := I) (R := R) rfl) C K hP hS hl.1 ml_X9_34 wy_X9_bottleAt wd_X9_bottleAt rfl rfl rfl ⟨Nat.le_of_ble_eq_true rfl, Nat.le_of_ble_eq_true rfl⟩ (Nat.le_of_ble_eq_true rfl) ⟨Nat.zero_le _, Nat.zero_le _⟩ dX9_metre_23 (fun H locs hP hS => ?_)
    obtain ⟨g7, h⟩ := mc_gd h
    refine ma_l16 hC K hP kr_1 g7 dX9_metre_26 ?_
    refine lv_isub hx hb dX9_metre_27 ?_
    refine lv_goto (tgt := 32) hx hb dX9_metre_28 (by decide) ?_
    cases h
    exact mt_i hC hr hlk K hP hS dX9_metre_32
set_option maxHeartbeats 4000000 in
set_option maxRecDepth 100000 in
theorem ct_X9_layerOf (l : Launch) {w : mc_w} {I : Nat → Nat → Int32} {R : Nat → Nat → Option Nat} {v0 : Int32} {rz : Int32} (h : mi_X9_layerOf v0 = rz) : Met l yX9_layerOf (Cond.code yX9_layerOf cX9_layerOf 1 (some .int) :: mc_big) ({ frames := 0, cells := 0, slots := 0, locals := 0 } : Room) (va_Pc [.int v0] (mc_B mr_k 3 w I R)) (mc_Q (some (.int rz)) (mc_B mr_k 3 w I R) (mc_A 3 w)) 0 0 (mc_A 3 w) := by
  refine Met.ofW (cc := cX9_layerOf) (maxL := 1) (ret := (some .int)) (by decide) rfl ?_
  intro p e s m args below meth c s₁ B hml hv
  obtain ⟨rfl, hP, K⟩ := hv
  have hown : s.vm.findClass RX9 = some m.cls := findClass_of_methodNamed B.named
  have C : CallFix p m c cX9_layerOf 1 s _ mc_big RX9 := ⟨B.exec, B.bytes, hml, hown, fun w hw => atoms_spec B.pre w (List.mem_cons_of_mem _ hw)⟩
  have hx := C.1
  have hb := C.2.1
  have hC := And.intro C.1 C.2.1
  have hr := B.returns
  have hlk := B.notSynchronized
  have hS : va_S (mc_A 3 w) s.heap s.heap [] := va_S.rf
  have hl := lv_entry ([.int v0]) (n := 1) (Nat.le_of_ble_eq_true rfl)
  rw [lg_entry_eq]
  generalize (lg_sl ([.int v0]) ++ List.replicate (1 - (lg_sl ([.int v0])).length) Slot.unset).toArray = ls at hl ⊢
  have hl : lv_has ls 1 [(0, .int v0)] := hl
  unfold mi_X9_layerOf at h
  refine lv_iload_n hx hb dX9_layerOf_0 rfl (lv_at hl 0 rfl) ?_
  refine lv_bipush (v := 100) hx hb dX9_layerOf_1 (by decide) ?_
  refine lv_idiv hx hb dX9_layerOf_3 (by decide) ?_
  refine lv_bipush (v := 9) hx hb dX9_layerOf_4 (by decide) ?_
  refine lv_icmp_le (tgt := 14) hx hb dX9_layerOf_6 (by decide) (fun c1 => ?_) (fun c1 => ?_)
  · replace h := mc_it h c1
    refine lv_iload_n hx hb dX9_layerOf_14 rfl (lv_at hl 0 rfl) ?_
    refine lv_bipush (v := 100) hx hb dX9_layerOf_15 (by decide) ?_
    refine lv_idiv hx hb dX9_layerOf_17 (by decide) ?_
    cases h
    exact mt_i hC hr hlk K hP hS dX9_layerOf_18
  · replace h := mc_ie h c1
    refine lv_bipush (v := 9) hx hb dX9_layerOf_9 (by decide) ?_
    refine lv_goto (tgt := 18) hx hb dX9_layerOf_11 (by decide) ?_
    cases h
    exact mt_i hC hr hlk K hP hS dX9_layerOf_18
set_option maxHeartbeats 4000000 in
set_option maxRecDepth 100000 in
theorem ct_X9_shuts (l : Launch) {w : mc_w} {I : Nat → Nat → Int32} {R : Nat → Nat → Option Nat} {v1 : Int32} {v2 : Int32} {Iz : Nat → Nat → Int32} (h : mi_X9_shuts I v1 v2 = some Iz) : Met l yX9_shuts (Cond.code yX9_shuts cX9_shuts 6 none :: mc_big) ({ frames := 3, cells := 0, slots := 0, locals := 65 } : Room) (va_Pc [.ref (w.2.2.1 0), .int v1, .int v2] (mc_B mr_k 3 w I R)) (mc_Q none (mc_B mr_k 3 w Iz R) (mc_A 3 w)) 0 0 (mc_A 3 w) := by
  refine Met.ofW (cc := cX9_shuts) (maxL := 6) (ret := none) (by decide) rfl ?_
  intro p e s m args below meth c s₁ B hml hv
  obtain ⟨rfl, hP, K⟩ := hv
  have hown : s.vm.findClass RX9 = some m.cls := findClass_of_methodNamed B.named
  have C : CallFix p m c cX9_shuts 6 s _ mc_big RX9 := ⟨B.exec, B.bytes, hml, hown, fun w hw => atoms_spec B.pre w (List.mem_cons_of_mem _ hw)⟩
  have hx := C.1
  have hb := C.2.1
  have hC := And.intro C.1 C.2.1
  have hr := B.returns
  have hlk := B.notSynchronized
  have hS : va_S (mc_A 3 w) s.heap s.heap [] := va_S.rf
  have hl := lv_entry ([.ref (w.2.2.1 0), .int v1, .int v2]) (n := 6) (Nat.le_of_ble_eq_true rfl)
  rw [lg_entry_eq]
  generalize (lg_sl ([.ref (w.2.2.1 0), .int v1, .int v2]) ++ List.replicate (6 - (lg_sl ([.ref (w.2.2.1 0), .int v1, .int v2])).length) Slot.unset).toArray = ls at hl ⊢
  have hl : lv_has ls 6 [(0, .ref (w.2.2.1 0)), (1, .int v1), (2, .int v2)] := hl
  unfold mi_X9_shuts at h
  refine lv_iload_n hx hb dX9_shuts_0 rfl (lv_at hl 1 rfl) ?_
  refine lv_iload_n hx hb dX9_shuts_1 rfl (lv_at hl 2 rfl) ?_
  refine mg_Si (As := [.int v1, .int v2]) (rest := []) (ct_X9_bottleAt l (w := w) (I := I) (R := R) rfl) C K hP hS hl.1 ml_X9_34 wy_X9_bottleAt wd_X9_bottleAt rfl rfl rfl ⟨Nat.le_of_ble_eq_true rfl, Nat.le_of_ble_eq_true rfl⟩ (Nat.le_of_ble_eq_true rfl) ⟨Nat.zero_le _, Nat.zero_le _⟩ dX9_shuts_2 (fun H locs hP hS => ?_)
  obtain ⟨x2, ex2, h⟩ := mc_bn_e h
  refine mv_top ex2 ?_
  refine lv_istore_n (i := 3) (lv' := [(3, .int x2), (0, .ref (w.2.2.1 0)), (1, .int v1), (2, .int v2)]) hx hb dX9_shuts_5 rfl hl (by decide) rfl (fun ls hl => ?_)
  refine lv_aload_n hx hb dX9_shuts_6 rfl (lv_at hl 1 rfl) ?_
  refine lv_iload_n hx hb dX9_shuts_7 rfl (lv_at hl 2 rfl) ?_
  refine lv_iload_n hx hb dX9_shuts_8 rfl (lv_at hl 3 rfl) ?_
  obtain ⟨r3, e4, h⟩ := mc_ob_e h
  refine mg_Vi (As := [.int v1, .int v2]) (rest := []) (ct_X9_metre l (w := w) (I := I) (R := R) e4) C K hP hS hl.1 kr_0 (by decide) rfl rfl ml_X9_42 wy_X9_metre wd_X9_metre rfl rfl rfl ⟨Nat.le_of_ble_eq_true rfl, Nat.le_of_ble_eq_true rfl⟩ (Nat.le_of_ble_eq_true rfl) ⟨Nat.zero_le _, Nat.zero_le _⟩ dX9_shuts_9 (fun H locs hP hS => ?_)
  refine lv_aload_n hx hb dX9_shuts_12 rfl (lv_at hl 1 rfl) ?_
  refine lv_iload_n hx hb dX9_shuts_13 rfl (lv_at hl 2 rfl) ?_
  obtain ⟨r5, e6, h⟩ := mc_ob_e h
  refine mg_Vi (As := [.int v1]) (rest := [.int r3]) (ct_X9_counted l (w := w) (I := I) (R := R) e6) C K hP hS hl.1 kr_0 (by decide) rfl rfl ml_X9_45 wy_X9_counted wd_X9_counted rfl rfl rfl ⟨Nat.le_of_ble_eq_true rfl, Nat.le_of_ble_eq_true rfl⟩ (Nat.le_of_ble_eq_true rfl) ⟨Nat.zero_le _, Nat.zero_le _⟩ dX9_shuts_14 (fun H locs hP hS => ?_)
  refine mg_Si (As := [.int r3, .int r5]) (rest := []) (ct_X9_deep l (w := w) (I := I) (R := R) rfl) C K hP hS hl.1 ml_X9_48 wy_X9_deep wd_X9_deep rfl rfl rfl ⟨Nat.le_of_ble_eq_true rfl, Nat.le_of_ble_eq_true rfl⟩ (Nat.le_of_ble_eq_true rfl) ⟨Nat.zero_le _, Nat.zero_le _⟩ dX9_shuts_17 (fun H locs hP hS => ?_)
  obtain ⟨x8, ex8, h⟩ := mc_bn_e h
  refine mv_top ex8 ?_
  refine lv_istore (i := 4) (lv' := [(4, .int x8), (3, .int x2), (0, .ref (w.2.2.1 0)), (1, .int v1), (2, .int v2)]) hx hb dX9_shuts_20 hl (by decide) rfl (fun ls hl => ?_)
  refine lv_iload hx hb dX9_shuts_22 (lv_at hl 0 rfl) ?_
  refine mg_Si (As := [.int x8]) (rest := []) (ct_X9_layerOf l (w := w) (I := I) (R := R) rfl) C K hP hS hl.1 ml_X9_51 wy_X9_layerOf wd_X9_layerOf rfl rfl rfl ⟨Nat.le_of_ble_eq_true rfl, Nat.le_of_ble_eq_true rfl⟩ (Nat.le_of_ble_eq_true rfl) ⟨Nat.zero_le _, Nat.zero_le _⟩ dX9_shuts_24 (fun H locs hP hS => ?_)
  obtain ⟨x10, ex10, h⟩ := mc_bn_e h
  refine mv_top ex10 ?_
  refine lv_istore (i := 5) (lv' := [(5, .int x10), (4, .int x8), (3, .int x2), (0, .ref (w.2.2.1 0)), (1, .int v1), (2, .int v2)]) hx hb dX9_shuts_27 hl (by decide) rfl (fun ls hl => ?_)
  refine lv_aload_n hx hb dX9_shuts_29 rfl (lv_at hl 3 rfl) ?_
  refine mf_X9_7 C K hP kr_0 dX9_shuts_30 ?_
  refine lv_iload_n hx hb dX9_shuts_33 rfl (lv_at hl 2 rfl) ?_
  refine lv_iconst (v := 1) hx hb dX9_shuts_34 (by decide) ?_
  refine lv_iadd hx hb dX9_shuts_35 ?_
  refine lv_iconst (v := 1) hx hb dX9_shuts_36 (by decide) ?_
  obtain ⟨g11, h⟩ := mc_gd h
  obtain ⟨I12, eI12, h⟩ := mc_bn_e h
  refine ma_s16 hC K hP hS kr_1 g11 eI12 dX9_shuts_37 (fun H locs hP hS => ?_)
  refine lv_aload_n hx hb dX9_shuts_38 rfl (lv_at hl 3 rfl) ?_
  refine mf_X9_7 C K hP kr_0 dX9_shuts_39 ?_
  refine lv_iload_n hx hb dX9_shuts_42 rfl (lv_at hl 2 rfl) ?_
  refine lv_iconst (v := 5) hx hb dX9_shuts_43 (by decide) ?_
  refine lv_iadd hx hb dX9_shuts_44 ?_
  refine lv_aload_n hx hb dX9_shuts_45 rfl (lv_at hl 3 rfl) ?_
  refine mf_X9_7 C K hP kr_0 dX9_shuts_46 ?_
  refine lv_iload_n hx hb dX9_shuts_49 rfl (lv_at hl 4 rfl) ?_
  refine lv_iconst (v := 0) hx hb dX9_shuts_50 (by decide) ?_
  refine lv_iadd hx hb dX9_shuts_51 ?_
  obtain ⟨g13, h⟩ := mc_gd h
  refine ma_l16 hC K hP kr_1 g13 dX9_shuts_52 ?_
  obtain ⟨g14, h⟩ := mc_gd h
  obtain ⟨I15, eI15, h⟩ := mc_bn_e h
  refine ma_s16 hC K hP hS kr_1 g14 eI15 dX9_shuts_53 (fun H locs hP hS => ?_)
  refine lv_aload_n hx hb dX9_shuts_54 rfl (lv_at hl 3 rfl) ?_
  refine mf_X9_7 C K hP kr_0 dX9_shuts_55 ?_
  refine lv_iload_n hx hb dX9_shuts_58 rfl (lv_at hl 2 rfl) ?_
  refine lv_bipush (v := 6) hx hb dX9_shuts_59 (by decide) ?_
  refine lv_iadd hx hb dX9_shuts_61 ?_
  refine lv_aload_n hx hb dX9_shuts_62 rfl (lv_at hl 3 rfl) ?_
  refine mf_X9_7 C K hP kr_0 dX9_shuts_63 ?_
  refine lv_iload_n hx hb dX9_shuts_66 rfl (lv_at hl 4 rfl) ?_
  refine lv_bipush (v := 13) hx hb dX9_shuts_67 (by decide) ?_
  refine lv_iadd hx hb dX9_shuts_69 ?_
  refine lv_iconst (v := 2) hx hb dX9_shuts_70 (by decide) ?_
  refine lv_iload hx hb dX9_shuts_71 (lv_at hl 0 rfl) ?_
  refine lv_imul hx hb dX9_shuts_73 ?_
  refine lv_iadd hx hb dX9_shuts_74 ?_
  obtain ⟨g16, h⟩ := mc_gd h
  refine ma_l16 hC K hP kr_1 g16 dX9_shuts_75 ?_
  obtain ⟨g17, h⟩ := mc_gd h
  obtain ⟨I18, eI18, h⟩ := mc_bn_e h
  refine ma_s16 hC K hP hS kr_1 g17 eI18 dX9_shuts_76 (fun H locs hP hS => ?_)
  refine lv_aload_n hx hb dX9_shuts_77 rfl (lv_at hl 3 rfl) ?_
  refine mf_X9_7 C K hP kr_0 dX9_shuts_78 ?_
  refine lv_iload_n hx hb dX9_shuts_81 rfl (lv_at hl 2 rfl) ?_
  refine lv_bipush (v := 7) hx hb dX9_shuts_82 (by decide) ?_
  refine lv_iadd hx hb dX9_shuts_84 ?_
  refine lv_aload_n hx hb dX9_shuts_85 rfl (lv_at hl 3 rfl) ?_
  refine mf_X9_7 C K hP kr_0 dX9_shuts_86 ?_
  refine lv_iload_n hx hb dX9_shuts_89 rfl (lv_at hl 4 rfl) ?_
  refine lv_bipush (v := 13) hx hb dX9_shuts_90 (by decide) ?_
  refine lv_iadd hx hb dX9_shuts_92 ?_
  refine lv_iconst (v := 2) hx hb dX9_shuts_93 (by decide) ?_
  refine lv_iload hx hb dX9_shuts_94 (lv_at hl 0 rfl) ?_
  refine lv_imul hx hb dX9_shuts_96 ?_
  refine lv_iadd hx hb dX9_shuts_97 ?_
  obtain ⟨g19, h⟩ := mc_gd h
  refine ma_l16 hC K hP kr_1 g19 dX9_shuts_98 ?_
  refine lv_iload hx hb dX9_shuts_99 (lv_at hl 1 rfl) ?_
  refine lv_bipush (v := 10) hx hb dX9_shuts_101 (by decide) ?_
  refine lv_idiv hx hb dX9_shuts_103 (by decide) ?_
  refine lv_iadd hx hb dX9_shuts_104 ?_
  obtain ⟨g20, h⟩ := mc_gd h
  obtain ⟨I21, eI21, h⟩ := mc_bn_e h
  refine ma_s16 hC K hP hS kr_1 g20 eI21 dX9_shuts_105 (fun H locs hP hS => ?_)
  refine lv_aload_n hx hb dX9_shuts_106 rfl (lv_at hl 3 rfl) ?_
  refine mf_X9_7 C K hP kr_0 dX9_shuts_107 ?_
  refine lv_iload_n hx hb dX9_shuts_110 rfl (lv_at hl 2 rfl) ?_
  refine lv_bipush (v := 8) hx hb dX9_shuts_111 (by decide) ?_
  refine lv_iadd hx hb dX9_shuts_113 ?_
  refine lv_aload_n hx hb dX9_shuts_114 rfl (lv_at hl 3 rfl) ?_
  refine mf_X9_7 C K hP kr_0 dX9_shuts_115 ?_
  refine lv_iload_n hx hb dX9_shuts_118 rfl (lv_at hl 4 rfl) ?_
  refine lv_bipush (v := 13) hx hb dX9_shuts_119 (by decide) ?_
  refine lv_iadd hx hb dX9_shuts_121 ?_
  refine lv_iconst (v := 2) hx hb dX9_shuts_122 (by decide) ?_
  refine lv_iload hx hb dX9_shuts_123 (lv_at hl 0 rfl) ?_
  refine lv_imul hx hb dX9_shuts_125 ?_
  refine lv_iadd hx hb dX9_shuts_126 ?_
  refine lv_iconst (v := 1) hx hb dX9_shuts_127 (by decide) ?_
  refine lv_iadd hx hb dX9_shuts_128 ?_
  obtain ⟨g22, h⟩ := mc_gd h
  refine ma_l16 hC K hP kr_1 g22 dX9_shuts_129 ?_
  obtain ⟨g23, h⟩ := mc_gd h
  obtain ⟨I24, eI24, h⟩ := mc_bn_e h
  refine ma_s16 hC K hP hS kr_1 g23 eI24 dX9_shuts_130 (fun H locs hP hS => ?_)
  refine lv_aload_n hx hb dX9_shuts_131 rfl (lv_at hl 3 rfl) ?_
  refine mf_X9_7 C K hP kr_0 dX9_shuts_132 ?_
  refine lv_iload_n hx hb dX9_shuts_135 rfl (lv_at hl 2 rfl) ?_
  refine lv_bipush (v := 9) hx hb dX9_shuts_136 (by decide) ?_
  refine lv_iadd hx hb dX9_shuts_138 ?_
  refine lv_aload_n hx hb dX9_shuts_139 rfl (lv_at hl 3 rfl) ?_
  refine lv_iload_n hx hb dX9_shuts_140 rfl (lv_at hl 4 rfl) ?_
  refine lv_iload_n hx hb dX9_shuts_141 rfl (lv_at hl 5 rfl) ?_
  obtain ⟨r25, e26, h⟩ := mc_ob_e h
  refine mg_Vi (As := [.int v1, .int v2]) (rest := [.int (x2 + 9), .ref (w.2.2.1 1)]) (ct_X9_metre l (w := w) (I := I24) (R := R) e26) C K hP hS hl.1 kr_0 (by decide) rfl rfl ml_X9_42 wy_X9_metre wd_X9_metre rfl rfl rfl ⟨Nat.le_of_ble_eq_true rfl, Nat.le_of_ble_eq_true rfl⟩ (Nat.le_of_ble_eq_true rfl) ⟨Nat.zero_le _, Nat.zero_le _⟩ dX9_shuts_142 (fun H locs hP hS => ?_)
  obtain ⟨g27, h⟩ := mc_gd h
  obtain ⟨I28, eI28, h⟩ := mc_bn_e h
  refine ma_s16 hC K hP hS kr_1 g27 eI28 dX9_shuts_145 (fun H locs hP hS => ?_)
  refine lv_aload_n hx hb dX9_shuts_146 rfl (lv_at hl 3 rfl) ?_
  refine mf_X9_7 C K hP kr_0 dX9_shuts_147 ?_
  refine lv_iload_n hx hb dX9_shuts_150 rfl (lv_at hl 2 rfl) ?_
  refine lv_bipush (v := 10) hx hb dX9_shuts_151 (by decide) ?_
  refine lv_iadd hx hb dX9_shuts_153 ?_
  refine lv_iload hx hb dX9_shuts_154 (lv_at hl 0 rfl) ?_
  obtain ⟨g29, h⟩ := mc_gd h
  obtain ⟨I30, eI30, h⟩ := mc_bn_e h
  refine ma_s16 hC K hP hS kr_1 g29 eI30 dX9_shuts_156 (fun H locs hP hS => ?_)
  cases h
  exact mt_v hC hr hlk K hP hS dX9_shuts_157
set_option maxHeartbeats 4000000 in
set_option maxRecDepth 100000 in
theorem bk_X9_removes_B18 {p : Program} {l : Launch} {e : Env} {s : State} {m : MethodId} {args : Array Value} {below : List Frame} {meth : Method} {c : Code} (C : CallFix p m c cX9_removes 4 s args mc_big RX9) (hr : meth.sig.returnType = none) (hlk : meth.locks = false) {w : mc_w} (K : mc_K mr_k 3 w s) {R : Nat → Nat → Option Nat} {F : Nat} {Iz : Nat → Nat → Int32} {k18 : (Nat → Nat → Int32) → Int32 → Int32 → (Option ((Nat → Nat → Int32)))} (hk18 : ∀ (I : Nat → Nat → Int32) (v1 : Int32) (v3 : Int32), k18 I v1 v3 = some Iz → ∀ {H : Heap} {locs : List Loc} {ls : Array Slot}, mc_P mr_k 3 w I R H → va_S (mc_A 3 w) s.heap H locs → lv_has ls 4 [(0, .ref (w.2.2.1 0)), (1, .int v1), (3, .int v3)] → W p l e ({ frames := 1, cells := 0, slots := 0, locals := 21 } : Room) s m args below meth c H locs 0 0 (MQ below (mc_Q none (mc_B mr_k 3 w Iz R) (mc_A 3 w)) args s 0 0 (mc_A 3 w)) (F0 m 18 ls [])) : ∀ (I : Nat → Nat → Int32) (v1 : Int32) (v3 : Int32), mi_X9_removes_B18 k18 F I v1 v3 = some Iz → ∀ {H : Heap} {locs : List Loc} {ls : Array Slot}, mc_P mr_k 3 w I R H → va_S (mc_A 3 w) s.heap H locs → lv_has ls 4 [(0, .ref (w.2.2.1 0)), (1, .int v1), (3, .int v3)] → W p l e ({ frames := 1, cells := 0, slots := 0, locals := 21 } : Room) s m args below meth c H locs 0 0 (MQ below (mc_Q none (mc_B mr_k 3 w Iz R) (mc_A 3 w)) args s 0 0 (mc_A 3 w)) (F0 m 18 ls []) := by
  intro I v1 v3 h  H locs ls hP hS hl
  have hx := C.1
  have hb := C.2.1
  have hC := And.intro C.1 C.2.1
  unfold mi_X9_removes_B18 at h
  refine lv_iload_n hx hb dX9_removes_18 rfl (lv_at hl 2 rfl) ?_
  refine lv_iload_n hx hb dX9_removes_19 rfl (lv_at hl 1 rfl) ?_
  refine lv_aload_n hx hb dX9_removes_20 rfl (lv_at hl 0 rfl) ?_
  refine mf_X9_7 C K hP kr_0 dX9_removes_21 ?_
  refine lv_iload_n hx hb dX9_removes_24 rfl (lv_at hl 1 rfl) ?_
  refine lv_iconst (v := 5) hx hb dX9_removes_25 (by decide) ?_
  refine lv_iadd hx hb dX9_removes_26 ?_
  obtain ⟨g6, h⟩ := mc_gd h
  refine ma_l16 hC K hP kr_1 g6 dX9_removes_27 ?_
  refine mg_Si (As := [.int v1, .int (I 1 (v1 + 5).toNatClampNeg)]) (rest := [.int v3]) (ct_X9_messengerAt l (w := w) (I := I) (R := R) rfl) C K hP hS hl.1 ml_X9_54 wy_X9_messengerAt wd_X9_messengerAt rfl rfl rfl ⟨Nat.le_of_ble_eq_true rfl, Nat.le_of_ble_eq_true rfl⟩ (Nat.le_of_ble_eq_true rfl) ⟨Nat.zero_le _, Nat.zero_le _⟩ dX9_removes_28 (fun H locs hP hS => ?_)
  refine lv_icmp_ge (tgt := 54) hx hb dX9_removes_31 (by decide) (fun c8 => ?_) (fun c8 => ?_)
  · replace h := mc_it h c8
    cases h
    exact mt_v hC hr hlk K hP hS dX9_removes_54
  · replace h := mc_ie h c8
    refine lv_aload_n hx hb dX9_removes_34 rfl (lv_at hl 0 rfl) ?_
    refine mf_X9_7 C K hP kr_0 dX9_removes_35 ?_
    refine lv_iload_n hx hb dX9_removes_38 rfl (lv_at hl 2 rfl) ?_
    refine lv_aload_n hx hb dX9_removes_39 rfl (lv_at hl 0 rfl) ?_
    refine mf_X9_7 C K hP kr_0 dX9_removes_40 ?_
    refine lv_iload_n hx hb dX9_removes_43 rfl (lv_at hl 2 rfl) ?_
    refine lv_iconst (v := 2) hx hb dX9_removes_44 (by decide) ?_
    refine lv_iadd hx hb dX9_removes_45 ?_
    obtain ⟨g9, h⟩ := mc_gd h
    refine ma_l16 hC K hP kr_1 g9 dX9_removes_46 ?_
    obtain ⟨g10, h⟩ := mc_gd h
    obtain ⟨I11, eI11, h⟩ := mc_bn_e h
    refine ma_s16 hC K hP hS kr_1 g10 eI11 dX9_removes_47 (fun H locs hP hS => ?_)
    obtain ⟨x12, ex12, h⟩ := mc_bn_e h
    refine lv_iinc (v := x12) (lv' := [(3, .int x12), (0, .ref (w.2.2.1 0)), (1, .int v1)]) hx hb dX9_removes_48 hl (k := 2) rfl (by rw [ex12]; rfl) (by decide) rfl (fun ls hl => ?_)
    refine lv_goto (tgt := 18) hx hb dX9_removes_51 (by decide) ?_
    exact hk18 I11 v1 x12 h  hP hS (lv_sub hl [1, 2, 0] rfl)
theorem bk_X9_removes_L18 {p : Program} {l : Launch} {e : Env} {s : State} {m : MethodId} {args : Array Value} {below : List Frame} {meth : Method} {c : Code} (C : CallFix p m c cX9_removes 4 s args mc_big RX9) (hr : meth.sig.returnType = none) (hlk : meth.locks = false) {w : mc_w} (K : mc_K mr_k 3 w s) {R : Nat → Nat → Option Nat} {F : Nat} {Iz : Nat → Nat → Int32} : ∀ n : Nat, ∀ (I : Nat → Nat → Int32) (v1 : Int32) (v3 : Int32), mi_X9_removes_L18 F n I v1 v3 = some Iz → ∀ {H : Heap} {locs : List Loc} {ls : Array Slot}, mc_P mr_k 3 w I R H → va_S (mc_A 3 w) s.heap H locs → lv_has ls 4 [(0, .ref (w.2.2.1 0)), (1, .int v1), (3, .int v3)] → W p l e ({ frames := 1, cells := 0, slots := 0, locals := 21 } : Room) s m args below meth c H locs 0 0 (MQ below (mc_Q none (mc_B mr_k 3 w Iz R) (mc_A 3 w)) args s 0 0 (mc_A 3 w)) (F0 m 18 ls []) := by
  intro n
  induction n with
  | zero =>
    intro I v1 v3 h
    cases h
  | succ n ih =>
    intro I v1 v3 h
    exact bk_X9_removes_B18 C hr hlk K  ih I v1 v3 h
set_option maxHeartbeats 4000000 in
set_option maxRecDepth 100000 in
theorem ct_X9_removes (l : Launch) {w : mc_w} {I : Nat → Nat → Int32} {R : Nat → Nat → Option Nat} {F : Nat} {v1 : Int32} {v2 : Int32} {Iz : Nat → Nat → Int32} (h : mi_X9_removes F I v1 v2 = some Iz) : Met l yX9_removes (Cond.code yX9_removes cX9_removes 4 none :: mc_big) ({ frames := 1, cells := 0, slots := 0, locals := 21 } : Room) (va_Pc [.ref (w.2.2.1 0), .int v1, .int v2] (mc_B mr_k 3 w I R)) (mc_Q none (mc_B mr_k 3 w Iz R) (mc_A 3 w)) 0 0 (mc_A 3 w) := by
  refine Met.ofW (cc := cX9_removes) (maxL := 4) (ret := none) (by decide) rfl ?_
  intro p e s m args below meth c s₁ B hml hv
  obtain ⟨rfl, hP, K⟩ := hv
  have hown : s.vm.findClass RX9 = some m.cls := findClass_of_methodNamed B.named
  have C : CallFix p m c cX9_removes 4 s _ mc_big RX9 := ⟨B.exec, B.bytes, hml, hown, fun w hw => atoms_spec B.pre w (List.mem_cons_of_mem _ hw)⟩
  have hx := C.1
  have hb := C.2.1
  have hC := And.intro C.1 C.2.1
  have hr := B.returns
  have hlk := B.notSynchronized
  have hS : va_S (mc_A 3 w) s.heap s.heap [] := va_S.rf
  have hl := lv_entry ([.ref (w.2.2.1 0), .int v1, .int v2]) (n := 4) (Nat.le_of_ble_eq_true rfl)
  rw [lg_entry_eq]
  generalize (lg_sl ([.ref (w.2.2.1 0), .int v1, .int v2]) ++ List.replicate (4 - (lg_sl ([.ref (w.2.2.1 0), .int v1, .int v2])).length) Slot.unset).toArray = ls at hl ⊢
  have hl : lv_has ls 4 [(0, .ref (w.2.2.1 0)), (1, .int v1), (2, .int v2)] := hl
  unfold mi_X9_removes at h
  refine lv_aload_n hx hb dX9_removes_0 rfl (lv_at hl 0 rfl) ?_
  refine mf_X9_7 C K hP kr_0 dX9_removes_1 ?_
  refine lv_iload_n hx hb dX9_removes_4 rfl (lv_at hl 1 rfl) ?_
  refine lv_iconst (v := 5) hx hb dX9_removes_5 (by decide) ?_
  refine lv_iadd hx hb dX9_removes_6 ?_
  refine lv_dup2_11 hx hb dX9_removes_7 rfl rfl ?_
  obtain ⟨g1, h⟩ := mc_gd h
  refine ma_l16 hC K hP kr_1 g1 dX9_removes_8 ?_
  refine lv_iconst (v := 1) hx hb dX9_removes_9 (by decide) ?_
  refine lv_isub hx hb dX9_removes_10 ?_
  obtain ⟨g2, h⟩ := mc_gd h
  obtain ⟨I3, eI3, h⟩ := mc_bn_e h
  refine ma_s16 hC K hP hS kr_1 g2 eI3 dX9_removes_11 (fun H locs hP hS => ?_)
  refine lv_iload_n hx hb dX9_removes_12 rfl (lv_at hl 1 rfl) ?_
  refine lv_iload_n hx hb dX9_removes_13 rfl (lv_at hl 2 rfl) ?_
  refine mg_Si (As := [.int v1, .int v2]) (rest := []) (ct_X9_messengerAt l (w := w) (I := I3) (R := R) rfl) C K hP hS hl.1 ml_X9_54 wy_X9_messengerAt wd_X9_messengerAt rfl rfl rfl ⟨Nat.le_of_ble_eq_true rfl, Nat.le_of_ble_eq_true rfl⟩ (Nat.le_of_ble_eq_true rfl) ⟨Nat.zero_le _, Nat.zero_le _⟩ dX9_removes_14 (fun H locs hP hS => ?_)
  obtain ⟨x5, ex5, h⟩ := mc_bn_e h
  refine mv_top ex5 ?_
  refine lv_istore_n (i := 3) (lv' := [(3, .int x5), (0, .ref (w.2.2.1 0)), (1, .int v1), (2, .int v2)]) hx hb dX9_removes_17 rfl hl (by decide) rfl (fun ls hl => ?_)
  exact bk_X9_removes_L18 C hr hlk K  F I3 v1 x5 h  hP hS (lv_sub hl [1, 2, 0] rfl)
set_option maxHeartbeats 4000000 in
set_option maxRecDepth 100000 in
theorem bk_X9_starts_J90 {p : Program} {l : Launch} {e : Env} {s : State} {m : MethodId} {args : Array Value} {below : List Frame} {meth : Method} {c : Code} (C : CallFix p m c cX9_starts 5 s args mc_big RX9) (hr : meth.sig.returnType = none) (hlk : meth.locks = false) {w : mc_w} (K : mc_K mr_k 3 w s) {R : Nat → Nat → Option Nat} {F : Nat} {Iz : Nat → Nat → Int32} : ∀ (I : Nat → Nat → Int32) (v1 : Int32) (v2 : Int32) (v3 : Int32) (v4 : Int32), mi_X9_starts_J90 F I v1 v2 v3 v4 = some Iz → ∀ {H : Heap} {locs : List Loc} {ls : Array Slot}, mc_P mr_k 3 w I R H → va_S (mc_A 3 w) s.heap H locs → lv_has ls 5 [(0, .ref (w.2.2.1 0)), (1, .int v1), (2, .int v2), (3, .int v3), (4, .int v4)] → W p l e ({ frames := 1, cells := 0, slots := 0, locals := 21 } : Room) s m args below meth c H locs 0 0 (MQ below (mc_Q none (mc_B mr_k 3 w Iz R) (mc_A 3 w)) args s 0 0 (mc_A 3 w)) (F0 m 90 ls []) := by
  intro I v1 v2 v3 v4 h  H locs ls hP hS hl
  have hx := C.1
  have hb := C.2.1
  have hC := And.intro C.1 C.2.1
  unfold mi_X9_starts_J90 at h
  refine lv_aload_n hx hb dX9_starts_90 rfl (lv_at hl 0 rfl) ?_
  refine mf_X9_7 C K hP kr_0 dX9_starts_91 ?_
  refine lv_iload_n hx hb dX9_starts_94 rfl (lv_at hl 1 rfl) ?_
  refine lv_iload hx hb dX9_starts_95 (lv_at hl 4 rfl) ?_
  refine mg_Si (As := [.int v1, .int v4]) (rest := [.ref (w.2.2.1 1)]) (ct_X9_messengerAt l (w := w) (I := I) (R := R) rfl) C K hP hS hl.1 ml_X9_54 wy_X9_messengerAt wd_X9_messengerAt rfl rfl rfl ⟨Nat.le_of_ble_eq_true rfl, Nat.le_of_ble_eq_true rfl⟩ (Nat.le_of_ble_eq_true rfl) ⟨Nat.zero_le _, Nat.zero_le _⟩ dX9_starts_97 (fun H locs hP hS => ?_)
  refine lv_iload_n hx hb dX9_starts_100 rfl (lv_at hl 2 rfl) ?_
  obtain ⟨g5, h⟩ := mc_gd h
  obtain ⟨I6, eI6, h⟩ := mc_bn_e h
  refine ma_s16 hC K hP hS kr_1 g5 eI6 dX9_starts_101 (fun H locs hP hS => ?_)
  refine lv_aload_n hx hb dX9_starts_102 rfl (lv_at hl 0 rfl) ?_
  refine mf_X9_7 C K hP kr_0 dX9_starts_103 ?_
  refine lv_iload_n hx hb dX9_starts_106 rfl (lv_at hl 1 rfl) ?_
  refine lv_iload hx hb dX9_starts_107 (lv_at hl 4 rfl) ?_
  refine mg_Si (As := [.int v1, .int v4]) (rest := [.ref (w.2.2.1 1)]) (ct_X9_messengerAt l (w := w) (I := I6) (R := R) rfl) C K hP hS hl.1 ml_X9_54 wy_X9_messengerAt wd_X9_messengerAt rfl rfl rfl ⟨Nat.le_of_ble_eq_true rfl, Nat.le_of_ble_eq_true rfl⟩ (Nat.le_of_ble_eq_true rfl) ⟨Nat.zero_le _, Nat.zero_le _⟩ dX9_starts_109 (fun H locs hP hS => ?_)
  refine lv_iconst (v := 1) hx hb dX9_starts_112 (by decide) ?_
  refine lv_iadd hx hb dX9_starts_113 ?_
  refine lv_iload_n hx hb dX9_starts_114 rfl (lv_at hl 3 rfl) ?_
  obtain ⟨g8, h⟩ := mc_gd h
  obtain ⟨I9, eI9, h⟩ := mc_bn_e h
  refine ma_s16 hC K hP hS kr_1 g8 eI9 dX9_starts_115 (fun H locs hP hS => ?_)
  refine lv_aload_n hx hb dX9_starts_116 rfl (lv_at hl 0 rfl) ?_
  refine mf_X9_7 C K hP kr_0 dX9_starts_117 ?_
  refine lv_iload_n hx hb dX9_starts_120 rfl (lv_at hl 1 rfl) ?_
  refine lv_iconst (v := 5) hx hb dX9_starts_121 (by decide) ?_
  refine lv_iadd hx hb dX9_starts_122 ?_
  refine lv_dup2_11 hx hb dX9_starts_123 rfl rfl ?_
  obtain ⟨g10, h⟩ := mc_gd h
  refine ma_l16 hC K hP kr_1 g10 dX9_starts_124 ?_
  refine lv_iconst (v := 1) hx hb dX9_starts_125 (by decide) ?_
  refine lv_iadd hx hb dX9_starts_126 ?_
  obtain ⟨g11, h⟩ := mc_gd h
  obtain ⟨I12, eI12, h⟩ := mc_bn_e h
  refine ma_s16 hC K hP hS kr_1 g11 eI12 dX9_starts_127 (fun H locs hP hS => ?_)
  cases h
  exact mt_v hC hr hlk K hP hS dX9_starts_128
set_option maxHeartbeats 4000000 in
set_option maxRecDepth 100000 in
theorem bk_X9_starts_B10 {p : Program} {l : Launch} {e : Env} {s : State} {m : MethodId} {args : Array Value} {below : List Frame} {meth : Method} {c : Code} (C : CallFix p m c cX9_starts 5 s args mc_big RX9) (hr : meth.sig.returnType = none) (hlk : meth.locks = false) {w : mc_w} (K : mc_K mr_k 3 w s) {R : Nat → Nat → Option Nat} {F : Nat} {Iz : Nat → Nat → Int32} {k10 : (Nat → Nat → Int32) → Int32 → Int32 → Int32 → Int32 → (Option ((Nat → Nat → Int32)))} (hk10 : ∀ (I : Nat → Nat → Int32) (v1 : Int32) (v2 : Int32) (v3 : Int32) (v4 : Int32), k10 I v1 v2 v3 v4 = some Iz → ∀ {H : Heap} {locs : List Loc} {ls : Array Slot}, mc_P mr_k 3 w I R H → va_S (mc_A 3 w) s.heap H locs → lv_has ls 5 [(0, .ref (w.2.2.1 0)), (1, .int v1), (2, .int v2), (3, .int v3), (4, .int v4)] → W p l e ({ frames := 1, cells := 0, slots := 0, locals := 21 } : Room) s m args below meth c H locs 0 0 (MQ below (mc_Q none (mc_B mr_k 3 w Iz R) (mc_A 3 w)) args s 0 0 (mc_A 3 w)) (F0 m 10 ls [])) : ∀ (I : Nat → Nat → Int32) (v1 : Int32) (v2 : Int32) (v3 : Int32) (v4 : Int32), mi_X9_starts_B10 k10 F I v1 v2 v3 v4 = some Iz → ∀ {H : Heap} {locs : List Loc} {ls : Array Slot}, mc_P mr_k 3 w I R H → va_S (mc_A 3 w) s.heap H locs → lv_has ls 5 [(0, .ref (w.2.2.1 0)), (1, .int v1), (2, .int v2), (3, .int v3), (4, .int v4)] → W p l e ({ frames := 1, cells := 0, slots := 0, locals := 21 } : Room) s m args below meth c H locs 0 0 (MQ below (mc_Q none (mc_B mr_k 3 w Iz R) (mc_A 3 w)) args s 0 0 (mc_A 3 w)) (F0 m 10 ls []) := by
  intro I v1 v2 v3 v4 h  H locs ls hP hS hl
  have hx := C.1
  have hb := C.2.1
  have hC := And.intro C.1 C.2.1
  unfold mi_X9_starts_B10 at h
  refine lv_iload hx hb dX9_starts_10 (lv_at hl 4 rfl) ?_
  refine lv_if_le (tgt := 90) hx hb dX9_starts_12 (by decide) (fun c3 => ?_) (fun c3 => ?_)
  · replace h := mc_it h c3
    exact bk_X9_starts_J90 C hr hlk K  I v1 v2 v3 v4 h  hP hS (lv_sub hl [0, 1, 2, 3, 4] rfl)
  · replace h := mc_ie h c3
    refine lv_aload_n hx hb dX9_starts_15 rfl (lv_at hl 0 rfl) ?_
    refine mf_X9_7 C K hP kr_0 dX9_starts_16 ?_
    refine lv_iload_n hx hb dX9_starts_19 rfl (lv_at hl 1 rfl) ?_
    refine lv_iload hx hb dX9_starts_20 (lv_at hl 4 rfl) ?_
    refine lv_iconst (v := 1) hx hb dX9_starts_22 (by decide) ?_
    refine lv_isub hx hb dX9_starts_23 ?_
    refine mg_Si (As := [.int v1, .int (v4 - 1)]) (rest := [.ref (w.2.2.1 1)]) (ct_X9_messengerAt l (w := w) (I := I) (R := R) rfl) C K hP hS hl.1 ml_X9_54 wy_X9_messengerAt wd_X9_messengerAt rfl rfl rfl ⟨Nat.le_of_ble_eq_true rfl, Nat.le_of_ble_eq_true rfl⟩ (Nat.le_of_ble_eq_true rfl) ⟨Nat.zero_le _, Nat.zero_le _⟩ dX9_starts_24 (fun H locs hP hS => ?_)
    obtain ⟨g14, h⟩ := mc_gd h
    refine ma_l16 hC K hP kr_1 g14 dX9_starts_27 ?_
    refine lv_iload_n hx hb dX9_starts_28 rfl (lv_at hl 2 rfl) ?_
    refine lv_icmp_le (tgt := 90) hx hb dX9_starts_29 (by decide) (fun c15 => ?_) (fun c15 => ?_)
    · replace h := mc_it h c15
      exact bk_X9_starts_J90 C hr hlk K  I v1 v2 v3 v4 h  hP hS (lv_sub hl [0, 1, 2, 3, 4] rfl)
    · replace h := mc_ie h c15
      refine lv_aload_n hx hb dX9_starts_32 rfl (lv_at hl 0 rfl) ?_
      refine mf_X9_7 C K hP kr_0 dX9_starts_33 ?_
      refine lv_iload_n hx hb dX9_starts_36 rfl (lv_at hl 1 rfl) ?_
      refine lv_iload hx hb dX9_starts_37 (lv_at hl 4 rfl) ?_
      refine mg_Si (As := [.int v1, .int v4]) (rest := [.ref (w.2.2.1 1)]) (ct_X9_messengerAt l (w := w) (I := I) (R := R) rfl) C K hP hS hl.1 ml_X9_54 wy_X9_messengerAt wd_X9_messengerAt rfl rfl rfl ⟨Nat.le_of_ble_eq_true rfl, Nat.le_of_ble_eq_true rfl⟩ (Nat.le_of_ble_eq_true rfl) ⟨Nat.zero_le _, Nat.zero_le _⟩ dX9_starts_39 (fun H locs hP hS => ?_)
      refine lv_aload_n hx hb dX9_starts_42 rfl (lv_at hl 0 rfl) ?_
      refine mf_X9_7 C K hP kr_0 dX9_starts_43 ?_
      refine lv_iload_n hx hb dX9_starts_46 rfl (lv_at hl 1 rfl) ?_
      refine lv_iload hx hb dX9_starts_47 (lv_at hl 4 rfl) ?_
      refine lv_iconst (v := 1) hx hb dX9_starts_49 (by decide) ?_
      refine lv_isub hx hb dX9_starts_50 ?_
      refine mg_Si (As := [.int v1, .int (v4 - 1)]) (rest := [.ref (w.2.2.1 1), .int (mi_X9_messengerAt v1 v4), .ref (w.2.2.1 1)]) (ct_X9_messengerAt l (w := w) (I := I) (R := R) rfl) C K hP hS hl.1 ml_X9_54 wy_X9_messengerAt wd_X9_messengerAt rfl rfl rfl ⟨Nat.le_of_ble_eq_true rfl, Nat.le_of_ble_eq_true rfl⟩ (Nat.le_of_ble_eq_true rfl) ⟨Nat.zero_le _, Nat.zero_le _⟩ dX9_starts_51 (fun H locs hP hS => ?_)
      obtain ⟨g18, h⟩ := mc_gd h
      refine ma_l16 hC K hP kr_1 g18 dX9_starts_54 ?_
      obtain ⟨g19, h⟩ := mc_gd h
      obtain ⟨I20, eI20, h⟩ := mc_bn_e h
      refine ma_s16 hC K hP hS kr_1 g19 eI20 dX9_starts_55 (fun H locs hP hS => ?_)
      refine lv_aload_n hx hb dX9_starts_56 rfl (lv_at hl 0 rfl) ?_
      refine mf_X9_7 C K hP kr_0 dX9_starts_57 ?_
      refine lv_iload_n hx hb dX9_starts_60 rfl (lv_at hl 1 rfl) ?_
      refine lv_iload hx hb dX9_starts_61 (lv_at hl 4 rfl) ?_
      refine mg_Si (As := [.int v1, .int v4]) (rest := [.ref (w.2.2.1 1)]) (ct_X9_messengerAt l (w := w) (I := I20) (R := R) rfl) C K hP hS hl.1 ml_X9_54 wy_X9_messengerAt wd_X9_messengerAt rfl rfl rfl ⟨Nat.le_of_ble_eq_true rfl, Nat.le_of_ble_eq_true rfl⟩ (Nat.le_of_ble_eq_true rfl) ⟨Nat.zero_le _, Nat.zero_le _⟩ dX9_starts_63 (fun H locs hP hS => ?_)
      refine lv_iconst (v := 1) hx hb dX9_starts_66 (by decide) ?_
      refine lv_iadd hx hb dX9_starts_67 ?_
      refine lv_aload_n hx hb dX9_starts_68 rfl (lv_at hl 0 rfl) ?_
      refine mf_X9_7 C K hP kr_0 dX9_starts_69 ?_
      refine lv_iload_n hx hb dX9_starts_72 rfl (lv_at hl 1 rfl) ?_
      refine lv_iload hx hb dX9_starts_73 (lv_at hl 4 rfl) ?_
      refine lv_iconst (v := 1) hx hb dX9_starts_75 (by decide) ?_
      refine lv_isub hx hb dX9_starts_76 ?_
      refine mg_Si (As := [.int v1, .int (v4 - 1)]) (rest := [.ref (w.2.2.1 1), .int ((mi_X9_messengerAt v1 v4) + 1), .ref (w.2.2.1 1)]) (ct_X9_messengerAt l (w := w) (I := I20) (R := R) rfl) C K hP hS hl.1 ml_X9_54 wy_X9_messengerAt wd_X9_messengerAt rfl rfl rfl ⟨Nat.le_of_ble_eq_true rfl, Nat.le_of_ble_eq_true rfl⟩ (Nat.le_of_ble_eq_true rfl) ⟨Nat.zero_le _, Nat.zero_le _⟩ dX9_starts_77 (fun H locs hP hS => ?_)
      refine lv_iconst (v := 1) hx hb dX9_starts_80 (by decide) ?_
      refine lv_iadd hx hb dX9_starts_81 ?_
      obtain ⟨g23, h⟩ := mc_gd h
      refine ma_l16 hC K hP kr_1 g23 dX9_starts_82 ?_
      obtain ⟨g24, h⟩ := mc_gd h
      obtain ⟨I25, eI25, h⟩ := mc_bn_e h
      refine ma_s16 hC K hP hS kr_1 g24 eI25 dX9_starts_83 (fun H locs hP hS => ?_)
      obtain ⟨x26, ex26, h⟩ := mc_bn_e h
      refine lv_iinc (v := x26) (lv' := [(4, .int x26), (0, .ref (w.2.2.1 0)), (1, .int v1), (2, .int v2), (3, .int v3)]) hx hb dX9_starts_84 hl (k := 4) rfl (by rw [ex26]; rfl) (by decide) rfl (fun ls hl => ?_)
      refine lv_goto (tgt := 10) hx hb dX9_starts_87 (by decide) ?_
      exact hk10 I25 v1 v2 v3 x26 h  hP hS (lv_sub hl [1, 2, 3, 4, 0] rfl)
theorem bk_X9_starts_L10 {p : Program} {l : Launch} {e : Env} {s : State} {m : MethodId} {args : Array Value} {below : List Frame} {meth : Method} {c : Code} (C : CallFix p m c cX9_starts 5 s args mc_big RX9) (hr : meth.sig.returnType = none) (hlk : meth.locks = false) {w : mc_w} (K : mc_K mr_k 3 w s) {R : Nat → Nat → Option Nat} {F : Nat} {Iz : Nat → Nat → Int32} : ∀ n : Nat, ∀ (I : Nat → Nat → Int32) (v1 : Int32) (v2 : Int32) (v3 : Int32) (v4 : Int32), mi_X9_starts_L10 F n I v1 v2 v3 v4 = some Iz → ∀ {H : Heap} {locs : List Loc} {ls : Array Slot}, mc_P mr_k 3 w I R H → va_S (mc_A 3 w) s.heap H locs → lv_has ls 5 [(0, .ref (w.2.2.1 0)), (1, .int v1), (2, .int v2), (3, .int v3), (4, .int v4)] → W p l e ({ frames := 1, cells := 0, slots := 0, locals := 21 } : Room) s m args below meth c H locs 0 0 (MQ below (mc_Q none (mc_B mr_k 3 w Iz R) (mc_A 3 w)) args s 0 0 (mc_A 3 w)) (F0 m 10 ls []) := by
  intro n
  induction n with
  | zero =>
    intro I v1 v2 v3 v4 h
    cases h
  | succ n ih =>
    intro I v1 v2 v3 v4 h
    exact bk_X9_starts_B10 C hr hlk K  ih I v1 v2 v3 v4 h
set_option maxHeartbeats 4000000 in
set_option maxRecDepth 100000 in
theorem ct_X9_starts (l : Launch) {w : mc_w} {I : Nat → Nat → Int32} {R : Nat → Nat → Option Nat} {F : Nat} {v1 : Int32} {v2 : Int32} {v3 : Int32} {Iz : Nat → Nat → Int32} (h : mi_X9_starts F I v1 v2 v3 = some Iz) : Met l yX9_starts (Cond.code yX9_starts cX9_starts 5 none :: mc_big) ({ frames := 1, cells := 0, slots := 0, locals := 21 } : Room) (va_Pc [.ref (w.2.2.1 0), .int v1, .int v2, .int v3] (mc_B mr_k 3 w I R)) (mc_Q none (mc_B mr_k 3 w Iz R) (mc_A 3 w)) 0 0 (mc_A 3 w) := by
  refine Met.ofW (cc := cX9_starts) (maxL := 5) (ret := none) (by decide) rfl ?_
  intro p e s m args below meth c s₁ B hml hv
  obtain ⟨rfl, hP, K⟩ := hv
  have hown : s.vm.findClass RX9 = some m.cls := findClass_of_methodNamed B.named
  have C : CallFix p m c cX9_starts 5 s _ mc_big RX9 := ⟨B.exec, B.bytes, hml, hown, fun w hw => atoms_spec B.pre w (List.mem_cons_of_mem _ hw)⟩
  have hx := C.1
  have hb := C.2.1
  have hC := And.intro C.1 C.2.1
  have hr := B.returns
  have hlk := B.notSynchronized
  have hS : va_S (mc_A 3 w) s.heap s.heap [] := va_S.rf
  have hl := lv_entry ([.ref (w.2.2.1 0), .int v1, .int v2, .int v3]) (n := 5) (Nat.le_of_ble_eq_true rfl)
  rw [lg_entry_eq]
  generalize (lg_sl ([.ref (w.2.2.1 0), .int v1, .int v2, .int v3]) ++ List.replicate (5 - (lg_sl ([.ref (w.2.2.1 0), .int v1, .int v2, .int v3])).length) Slot.unset).toArray = ls at hl ⊢
  have hl : lv_has ls 5 [(0, .ref (w.2.2.1 0)), (1, .int v1), (2, .int v2), (3, .int v3)] := hl
  unfold mi_X9_starts at h
  refine lv_aload_n hx hb dX9_starts_0 rfl (lv_at hl 0 rfl) ?_
  refine mf_X9_7 C K hP kr_0 dX9_starts_1 ?_
  refine lv_iload_n hx hb dX9_starts_4 rfl (lv_at hl 1 rfl) ?_
  refine lv_iconst (v := 5) hx hb dX9_starts_5 (by decide) ?_
  refine lv_iadd hx hb dX9_starts_6 ?_
  obtain ⟨g1, h⟩ := mc_gd h
  refine ma_l16 hC K hP kr_1 g1 dX9_starts_7 ?_
  obtain ⟨x2, ex2, h⟩ := mc_bn_e h
  refine mv_top ex2 ?_
  refine lv_istore (i := 4) (lv' := [(4, .int x2), (0, .ref (w.2.2.1 0)), (1, .int v1), (2, .int v2), (3, .int v3)]) hx hb dX9_starts_8 hl (by decide) rfl (fun ls hl => ?_)
  exact bk_X9_starts_L10 C hr hlk K  F I v1 v2 v3 x2 h  hP hS (lv_sub hl [1, 2, 3, 4, 0] rfl)
set_option maxHeartbeats 4000000 in
set_option maxRecDepth 100000 in
theorem bk_X9_met_B8 {p : Program} {l : Launch} {e : Env} {s : State} {m : MethodId} {args : Array Value} {below : List Frame} {meth : Method} {c : Code} (C : CallFix p m c cX9_met 7 s args mc_big RX9) (hr : meth.sig.returnType = (some .int)) (hlk : meth.locks = false) {w : mc_w} (K : mc_K mr_k 3 w s) {I : Nat → Nat → Int32} {R : Nat → Nat → Option Nat} {F : Nat} {rz : Int32} {k8 : (Nat → Nat → Int32) → Int32 → Int32 → Int32 → Int32 → Int32 → Option (Int32)} (hk8 : ∀ (v1 : Int32) (v2 : Int32) (v3 : Int32) (v4 : Int32) (v5 : Int32), k8 I v1 v2 v3 v4 v5 = some rz → ∀ {H : Heap} {locs : List Loc} {ls : Array Slot}, mc_P mr_k 3 w I R H → va_S (mc_A 3 w) s.heap H locs → lv_has ls 7 [(0, .ref (w.2.2.1 0)), (1, .int v1), (2, .int v2), (3, .int v3), (4, .int v4), (5, .int v5)] → W p l e ({ frames := 2, cells := 0, slots := 0, locals := 43 } : Room) s m args below meth c H locs 0 0 (MQ below (mc_Q (some (.int rz)) (mc_B mr_k 3 w I R) (mc_A 3 w)) args s 0 0 (mc_A 3 w)) (F0 m 8 ls [])) : ∀ (v1 : Int32) (v2 : Int32) (v3 : Int32) (v4 : Int32) (v5 : Int32), mi_X9_met_B8 k8 F I v1 v2 v3 v4 v5 = some rz → ∀ {H : Heap} {locs : List Loc} {ls : Array Slot}, mc_P mr_k 3 w I R H → va_S (mc_A 3 w) s.heap H locs → lv_has ls 7 [(0, .ref (w.2.2.1 0)), (1, .int v1), (2, .int v2), (3, .int v3), (4, .int v4), (5, .int v5)] → W p l e ({ frames := 2, cells := 0, slots := 0, locals := 43 } : Room) s m args below meth c H locs 0 0 (MQ below (mc_Q (some (.int rz)) (mc_B mr_k 3 w I R) (mc_A 3 w)) args s 0 0 (mc_A 3 w)) (F0 m 8 ls []) := by
  intro v1 v2 v3 v4 v5 h  H locs ls hP hS hl
  have hx := C.1
  have hb := C.2.1
  have hC := And.intro C.1 C.2.1
  unfold mi_X9_met_B8 at h
  refine lv_iload hx hb dX9_met_8 (lv_at hl 5 rfl) ?_
  refine lv_aload_n hx hb dX9_met_10 rfl (lv_at hl 0 rfl) ?_
  refine mf_X9_7 C K hP kr_0 dX9_met_11 ?_
  refine lv_iload_n hx hb dX9_met_14 rfl (lv_at hl 1 rfl) ?_
  refine lv_iconst (v := 4) hx hb dX9_met_15 (by decide) ?_
  refine lv_iadd hx hb dX9_met_16 ?_
  obtain ⟨g1, h⟩ := mc_gd h
  refine ma_l16 hC K hP kr_1 g1 dX9_met_17 ?_
  refine lv_icmp_ge (tgt := 71) hx hb dX9_met_18 (by decide) (fun c2 => ?_) (fun c2 => ?_)
  · replace h := mc_it h c2
    refine lv_iload hx hb dX9_met_71 (lv_at hl 4 rfl) ?_
    cases h
    exact mt_i hC hr hlk K hP hS dX9_met_73
  · replace h := mc_ie h c2
    refine lv_aload_n hx hb dX9_met_21 rfl (lv_at hl 0 rfl) ?_
    refine mf_X9_7 C K hP kr_0 dX9_met_22 ?_
    refine lv_iload_n hx hb dX9_met_25 rfl (lv_at hl 1 rfl) ?_
    refine lv_iload hx hb dX9_met_26 (lv_at hl 5 rfl) ?_
    refine mg_Si (As := [.int v1, .int v5]) (rest := [.ref (w.2.2.1 1)]) (ct_X9_bottleAt l (w := w) (I := I) (R := R) rfl) C K hP hS hl.1 ml_X9_34 wy_X9_bottleAt wd_X9_bottleAt rfl rfl rfl ⟨Nat.le_of_ble_eq_true rfl, Nat.le_of_ble_eq_true rfl⟩ (Nat.le_of_ble_eq_true rfl) ⟨Nat.zero_le _, Nat.zero_le _⟩ dX9_met_28 (fun H locs hP hS => ?_)
    obtain ⟨g4, h⟩ := mc_gd h
    refine ma_l16 hC K hP kr_1 g4 dX9_met_31 ?_
    obtain ⟨x5, ex5, h⟩ := mc_bn_e h
    refine mv_top ex5 ?_
    refine lv_istore (i := 6) (lv' := [(6, .int x5), (0, .ref (w.2.2.1 0)), (1, .int v1), (2, .int v2), (3, .int v3), (4, .int v4), (5, .int v5)]) hx hb dX9_met_32 hl (by decide) rfl (fun ls hl => ?_)
    refine lv_aload_n hx hb dX9_met_34 rfl (lv_at hl 1 rfl) ?_
    refine lv_iload_n hx hb dX9_met_35 rfl (lv_at hl 2 rfl) ?_
    refine lv_iload hx hb dX9_met_36 (lv_at hl 6 rfl) ?_
    obtain ⟨r6, e7, h⟩ := mc_ob_e h
    refine mg_Vz (As := [.int v1, .int v5]) (rest := []) (ct_X9_isInWater l (w := w) (I := I) (R := R) e7) C K hP hS hl.1 kr_0 (by decide) rfl rfl ml_X9_38 wy_X9_isInWater wd_X9_isInWater rfl rfl rfl ⟨Nat.le_of_ble_eq_true rfl, Nat.le_of_ble_eq_true rfl⟩ (Nat.le_of_ble_eq_true rfl) ⟨Nat.zero_le _, Nat.zero_le _⟩ dX9_met_38 (fun H locs hP z8 hS => ?_)
    refine lv_if_eq (tgt := 61) hx hb dX9_met_41 (by decide) (fun c9 => ?_) (fun c9 => ?_)
    · replace h := mc_it h c9
      refine lv_iload hx hb dX9_met_61 (lv_at hl 5 rfl) ?_
      refine lv_istore (i := 4) (lv' := [(4, .int v4), (6, .int x5), (0, .ref (w.2.2.1 0)), (1, .int v1), (2, .int v2), (3, .int v3), (5, .int v5)]) hx hb dX9_met_63 hl (by decide) rfl (fun ls hl => ?_)
      obtain ⟨x10, ex10, h⟩ := mc_bn_e h
      refine lv_iinc (v := x10) (lv' := [(5, .int x10), (4, .int v4), (6, .int x5), (0, .ref (w.2.2.1 0)), (1, .int v1), (2, .int v2), (3, .int v3)]) hx hb dX9_met_65 hl (k := 6) rfl (by rw [ex10]; rfl) (by decide) rfl (fun ls hl => ?_)
      refine lv_goto (tgt := 8) hx hb dX9_met_68 (by decide) ?_
      exact hk8 v1 v2 v3 v4 x10 h  hP hS (lv_sub hl [3, 4, 5, 6, 1, 0] rfl)
    · replace h := mc_ie h c9
      refine lv_iload hx hb dX9_met_44 (lv_at hl 0 rfl) ?_
      refine lv_iload_n hx hb dX9_met_46 rfl (lv_at hl 3 rfl) ?_
      refine lv_icmp_ge (tgt := 61) hx hb dX9_met_47 (by decide) (fun c11 => ?_) (fun c11 => ?_)
      · replace h := mc_it h c11
        refine lv_iload hx hb dX9_met_61 (lv_at hl 5 rfl) ?_
        refine lv_istore (i := 4) (lv' := [(4, .int v4), (6, .int x5), (0, .ref (w.2.2.1 0)), (1, .int v1), (2, .int v2), (3, .int v3), (5, .int v5)]) hx hb dX9_met_63 hl (by decide) rfl (fun ls hl => ?_)
        obtain ⟨x12, ex12, h⟩ := mc_bn_e h
        refine lv_iinc (v := x12) (lv' := [(5, .int x12), (4, .int v4), (6, .int x5), (0, .ref (w.2.2.1 0)), (1, .int v1), (2, .int v2), (3, .int v3)]) hx hb dX9_met_65 hl (k := 6) rfl (by rw [ex12]; rfl) (by decide) rfl (fun ls hl => ?_)
        refine lv_goto (tgt := 8) hx hb dX9_met_68 (by decide) ?_
        exact hk8 v1 v2 v3 v4 x12 h  hP hS (lv_sub hl [3, 4, 5, 6, 1, 0] rfl)
      · replace h := mc_ie h c11
        refine lv_iload hx hb dX9_met_50 (lv_at hl 0 rfl) ?_
        refine lv_iload_n hx hb dX9_met_52 rfl (lv_at hl 4 rfl) ?_
        refine lv_icmp_lt (tgt := 61) hx hb dX9_met_53 (by decide) (fun c13 => ?_) (fun c13 => ?_)
        · replace h := mc_it h c13
          refine lv_iload hx hb dX9_met_61 (lv_at hl 5 rfl) ?_
          refine lv_istore (i := 4) (lv' := [(4, .int v4), (6, .int x5), (0, .ref (w.2.2.1 0)), (1, .int v1), (2, .int v2), (3, .int v3), (5, .int v5)]) hx hb dX9_met_63 hl (by decide) rfl (fun ls hl => ?_)
          obtain ⟨x14, ex14, h⟩ := mc_bn_e h
          refine lv_iinc (v := x14) (lv' := [(5, .int x14), (4, .int v4), (6, .int x5), (0, .ref (w.2.2.1 0)), (1, .int v1), (2, .int v2), (3, .int v3)]) hx hb dX9_met_65 hl (k := 6) rfl (by rw [ex14]; rfl) (by decide) rfl (fun ls hl => ?_)
          refine lv_goto (tgt := 8) hx hb dX9_met_68 (by decide) ?_
          exact hk8 v1 v2 v3 v4 x14 h  hP hS (lv_sub hl [3, 4, 5, 6, 1, 0] rfl)
        · replace h := mc_ie h c13
          refine lv_iload hx hb dX9_met_56 (lv_at hl 6 rfl) ?_
          refine lv_goto (tgt := 63) hx hb dX9_met_58 (by decide) ?_
          refine lv_istore (i := 4) (lv' := [(4, .int v5), (6, .int x5), (0, .ref (w.2.2.1 0)), (1, .int v1), (2, .int v2), (3, .int v3), (5, .int v5)]) hx hb dX9_met_63 hl (by decide) rfl (fun ls hl => ?_)
          obtain ⟨x15, ex15, h⟩ := mc_bn_e h
          refine lv_iinc (v := x15) (lv' := [(5, .int x15), (4, .int v5), (6, .int x5), (0, .ref (w.2.2.1 0)), (1, .int v1), (2, .int v2), (3, .int v3)]) hx hb dX9_met_65 hl (k := 6) rfl (by rw [ex15]; rfl) (by decide) rfl (fun ls hl => ?_)
          refine lv_goto (tgt := 8) hx hb dX9_met_68 (by decide) ?_
          exact hk8 v1 v2 v3 v5 x15 h  hP hS (lv_sub hl [3, 4, 5, 6, 1, 0] rfl)
theorem bk_X9_met_L8 {p : Program} {l : Launch} {e : Env} {s : State} {m : MethodId} {args : Array Value} {below : List Frame} {meth : Method} {c : Code} (C : CallFix p m c cX9_met 7 s args mc_big RX9) (hr : meth.sig.returnType = (some .int)) (hlk : meth.locks = false) {w : mc_w} (K : mc_K mr_k 3 w s) {I : Nat → Nat → Int32} {R : Nat → Nat → Option Nat} {F : Nat} {rz : Int32} : ∀ n : Nat, ∀ (v1 : Int32) (v2 : Int32) (v3 : Int32) (v4 : Int32) (v5 : Int32), mi_X9_met_L8 F n I v1 v2 v3 v4 v5 = some rz → ∀ {H : Heap} {locs : List Loc} {ls : Array Slot}, mc_P mr_k 3 w I R H → va_S (mc_A 3 w) s.heap H locs → lv_has ls 7 [(0, .ref (w.2.2.1 0)), (1, .int v1), (2, .int v2), (3, .int v3), (4, .int v4), (5, .int v5)] → W p l e ({ frames := 2, cells := 0, slots := 0, locals := 43 } : Room) s m args below meth c H locs 0 0 (MQ below (mc_Q (some (.int rz)) (mc_B mr_k 3 w I R) (mc_A 3 w)) args s 0 0 (mc_A 3 w)) (F0 m 8 ls []) := by
  intro n
  induction n with
  | zero =>
    intro v1 v2 v3 v4 v5 h
    cases h
  | succ n ih =>
    intro v1 v2 v3 v4 v5 h
    exact bk_X9_met_B8 C hr hlk K  ih v1 v2 v3 v4 v5 h
set_option maxHeartbeats 4000000 in
set_option maxRecDepth 100000 in
theorem ct_X9_met (l : Launch) {w : mc_w} {I : Nat → Nat → Int32} {R : Nat → Nat → Option Nat} {F : Nat} {v1 : Int32} {v2 : Int32} {v3 : Int32} {rz : Int32} (h : mi_X9_met F I v1 v2 v3 = some rz) : Met l yX9_met (Cond.code yX9_met cX9_met 7 (some .int) :: mc_big) ({ frames := 2, cells := 0, slots := 0, locals := 43 } : Room) (va_Pc [.ref (w.2.2.1 0), .int v1, .int v2, .int v3] (mc_B mr_k 3 w I R)) (mc_Q (some (.int rz)) (mc_B mr_k 3 w I R) (mc_A 3 w)) 0 0 (mc_A 3 w) := by
  refine Met.ofW (cc := cX9_met) (maxL := 7) (ret := (some .int)) (by decide) rfl ?_
  intro p e s m args below meth c s₁ B hml hv
  obtain ⟨rfl, hP, K⟩ := hv
  have hown : s.vm.findClass RX9 = some m.cls := findClass_of_methodNamed B.named
  have C : CallFix p m c cX9_met 7 s _ mc_big RX9 := ⟨B.exec, B.bytes, hml, hown, fun w hw => atoms_spec B.pre w (List.mem_cons_of_mem _ hw)⟩
  have hx := C.1
  have hb := C.2.1
  have hC := And.intro C.1 C.2.1
  have hr := B.returns
  have hlk := B.notSynchronized
  have hS : va_S (mc_A 3 w) s.heap s.heap [] := va_S.rf
  have hl := lv_entry ([.ref (w.2.2.1 0), .int v1, .int v2, .int v3]) (n := 7) (Nat.le_of_ble_eq_true rfl)
  rw [lg_entry_eq]
  generalize (lg_sl ([.ref (w.2.2.1 0), .int v1, .int v2, .int v3]) ++ List.replicate (7 - (lg_sl ([.ref (w.2.2.1 0), .int v1, .int v2, .int v3])).length) Slot.unset).toArray = ls at hl ⊢
  have hl : lv_has ls 7 [(0, .ref (w.2.2.1 0)), (1, .int v1), (2, .int v2), (3, .int v3)] := hl
  unfold mi_X9_met at h
  refine lv_sipush (v := (-1005)) hx hb dX9_met_0 (by decide) ?_
  refine lv_istore (i := 4) (lv' := [(4, .int (-1005)), (0, .ref (w.2.2.1 0)), (1, .int v1), (2, .int v2), (3, .int v3)]) hx hb dX9_met_3 hl (by decide) rfl (fun ls hl => ?_)
  refine lv_iconst (v := 0) hx hb dX9_met_5 (by decide) ?_
  refine lv_istore (i := 5) (lv' := [(5, .int 0), (4, .int (-1005)), (0, .ref (w.2.2.1 0)), (1, .int v1), (2, .int v2), (3, .int v3)]) hx hb dX9_met_6 hl (by decide) rfl (fun ls hl => ?_)
  exact bk_X9_met_L8 C hr hlk K  F v1 v2 v3 (-1005) 0 h  hP hS (lv_sub hl [2, 3, 4, 5, 1, 0] rfl)
set_option maxHeartbeats 4000000 in
set_option maxRecDepth 100000 in
theorem ct_X9_strikes (l : Launch) {w : mc_w} {I : Nat → Nat → Int32} {R : Nat → Nat → Option Nat} {F : Nat} {v1 : Int32} {v2 : Int32} {Iz : Nat → Nat → Int32} {rz : Int32} (h : mi_X9_strikes F I v1 v2 = some (Iz, rz)) : Met l yX9_strikes (Cond.code yX9_strikes cX9_strikes 4 (some .boolean) :: mc_big) ({ frames := 4, cells := 0, slots := 0, locals := 90 } : Room) (va_Pc [.ref (w.2.2.1 0), .int v1, .int v2] (mc_B mr_k 3 w I R)) (mc_Q (some (.int rz)) (fun t => mc_B mr_k 3 w Iz R t ∧ ¬ (rz ≠ 0 ∧ rz ≠ 1)) (mc_A 3 w)) 0 0 (mc_A 3 w) := by
  refine Met.ofW (cc := cX9_strikes) (maxL := 4) (ret := (some .boolean)) (by decide) rfl ?_
  intro p e s m args below meth c s₁ B hml hv
  obtain ⟨rfl, hP, K⟩ := hv
  have hown : s.vm.findClass RX9 = some m.cls := findClass_of_methodNamed B.named
  have C : CallFix p m c cX9_strikes 4 s _ mc_big RX9 := ⟨B.exec, B.bytes, hml, hown, fun w hw => atoms_spec B.pre w (List.mem_cons_of_mem _ hw)⟩
  have hx := C.1
  have hb := C.2.1
  have hC := And.intro C.1 C.2.1
  have hr := B.returns
  have hlk := B.notSynchronized
  have hS : va_S (mc_A 3 w) s.heap s.heap [] := va_S.rf
  have hl := lv_entry ([.ref (w.2.2.1 0), .int v1, .int v2]) (n := 4) (Nat.le_of_ble_eq_true rfl)
  rw [lg_entry_eq]
  generalize (lg_sl ([.ref (w.2.2.1 0), .int v1, .int v2]) ++ List.replicate (4 - (lg_sl ([.ref (w.2.2.1 0), .int v1, .int v2])).length) Slot.unset).toArray = ls at hl ⊢
  have hl : lv_has ls 4 [(0, .ref (w.2.2.1 0)), (1, .int v1), (2, .int v2)] := hl
  unfold mi_X9_strikes at h
  refine lv_iload_n hx hb dX9_strikes_0 rfl (lv_at hl 1 rfl) ?_
  refine lv_iload_n hx hb dX9_strikes_1 rfl (lv_at hl 2 rfl) ?_
  refine mg_Si (As := [.int v1, .int v2]) (rest := []) (ct_X9_bottleAt l (w := w) (I := I) (R := R) rfl) C K hP hS hl.1 ml_X9_34 wy_X9_bottleAt wd_X9_bottleAt rfl rfl rfl ⟨Nat.le_of_ble_eq_true rfl, Nat.le_of_ble_eq_true rfl⟩ (Nat.le_of_ble_eq_true rfl) ⟨Nat.zero_le _, Nat.zero_le _⟩ dX9_strikes_2 (fun H locs hP hS => ?_)
  obtain ⟨x2, ex2, h⟩ := mc_bn_e h
  refine mv_top ex2 ?_
  refine lv_istore_n (i := 3) (lv' := [(3, .int x2), (0, .ref (w.2.2.1 0)), (1, .int v1), (2, .int v2)]) hx hb dX9_strikes_5 rfl hl (by decide) rfl (fun ls hl => ?_)
  refine lv_aload_n hx hb dX9_strikes_6 rfl (lv_at hl 1 rfl) ?_
  refine mf_X9_7 C K hP kr_0 dX9_strikes_7 ?_
  refine lv_iload_n hx hb dX9_strikes_10 rfl (lv_at hl 0 rfl) ?_
  refine lv_iconst (v := 3) hx hb dX9_strikes_11 (by decide) ?_
  refine lv_iadd hx hb dX9_strikes_12 ?_
  refine lv_dup2_11 hx hb dX9_strikes_13 rfl rfl ?_
  obtain ⟨g3, h⟩ := mc_gd h
  refine ma_l16 hC K hP kr_1 g3 dX9_strikes_14 ?_
  refine lv_iconst (v := 1) hx hb dX9_strikes_15 (by decide) ?_
  refine lv_iadd hx hb dX9_strikes_16 ?_
  obtain ⟨g4, h⟩ := mc_gd h
  obtain ⟨I5, eI5, h⟩ := mc_bn_e h
  refine ma_s16 hC K hP hS kr_1 g4 eI5 dX9_strikes_17 (fun H locs hP hS => ?_)
  refine lv_aload_n hx hb dX9_strikes_18 rfl (lv_at hl 1 rfl) ?_
  refine mf_X9_7 C K hP kr_0 dX9_strikes_19 ?_
  refine lv_iload_n hx hb dX9_strikes_22 rfl (lv_at hl 2 rfl) ?_
  refine lv_bipush (v := 8) hx hb dX9_strikes_23 (by decide) ?_
  refine lv_iadd hx hb dX9_strikes_25 ?_
  refine lv_dup2_11 hx hb dX9_strikes_26 rfl rfl ?_
  obtain ⟨g6, h⟩ := mc_gd h
  refine ma_l16 hC K hP kr_1 g6 dX9_strikes_27 ?_
  refine lv_iconst (v := 1) hx hb dX9_strikes_28 (by decide) ?_
  refine lv_iadd hx hb dX9_strikes_29 ?_
  obtain ⟨g7, h⟩ := mc_gd h
  obtain ⟨I8, eI8, h⟩ := mc_bn_e h
  refine ma_s16 hC K hP hS kr_1 g7 eI8 dX9_strikes_30 (fun H locs hP hS => ?_)
  refine lv_aload_n hx hb dX9_strikes_31 rfl (lv_at hl 1 rfl) ?_
  refine mf_X9_7 C K hP kr_0 dX9_strikes_32 ?_
  refine lv_iload_n hx hb dX9_strikes_35 rfl (lv_at hl 0 rfl) ?_
  refine lv_iconst (v := 1) hx hb dX9_strikes_36 (by decide) ?_
  refine lv_iadd hx hb dX9_strikes_37 ?_
  obtain ⟨g9, h⟩ := mc_gd h
  refine ma_l16 hC K hP kr_1 g9 dX9_strikes_38 ?_
  refine lv_iconst (v := 1) hx hb dX9_strikes_39 (by decide) ?_
  refine lv_icmp_ne (tgt := 45) hx hb dX9_strikes_40 (by decide) (fun c10 => ?_) (fun c10 => ?_)
  · replace h := mc_ie h c10
    refine lv_aload_n hx hb dX9_strikes_45 rfl (lv_at hl 1 rfl) ?_
    refine lv_iload_n hx hb dX9_strikes_46 rfl (lv_at hl 2 rfl) ?_
    refine lv_iload_n hx hb dX9_strikes_47 rfl (lv_at hl 3 rfl) ?_
    obtain ⟨I11, e12, h⟩ := mc_ob_e h
    refine mg_Vv (As := [.int v1, .int v2]) (rest := []) (ct_X9_shuts l (w := w) (I := I8) (R := R) e12) C K hP hS hl.1 kr_0 (by decide) rfl rfl ml_X9_57 wy_X9_shuts wd_X9_shuts rfl rfl rfl ⟨Nat.le_of_ble_eq_true rfl, Nat.le_of_ble_eq_true rfl⟩ (Nat.le_of_ble_eq_true rfl) ⟨Nat.zero_le _, Nat.zero_le _⟩ dX9_strikes_48 (fun H locs hP hS => ?_)
    refine lv_aload_n hx hb dX9_strikes_51 rfl (lv_at hl 1 rfl) ?_
    refine mf_X9_7 C K hP kr_0 dX9_strikes_52 ?_
    refine lv_iload_n hx hb dX9_strikes_55 rfl (lv_at hl 0 rfl) ?_
    refine lv_iconst (v := 2) hx hb dX9_strikes_56 (by decide) ?_
    refine lv_iadd hx hb dX9_strikes_57 ?_
    obtain ⟨g13, h⟩ := mc_gd h
    refine ma_l16 hC K hP kr_1 g13 dX9_strikes_58 ?_
    refine lv_iconst (v := 1) hx hb dX9_strikes_59 (by decide) ?_
    refine lv_icmp_ne (tgt := 97) hx hb dX9_strikes_60 (by decide) (fun c14 => ?_) (fun c14 => ?_)
    · replace h := mc_ie h c14
      refine lv_iconst (v := 1) hx hb dX9_strikes_97 (by decide) ?_
      cases h
      exact mt_zX hC hr hlk K hP hS (by decide) (by decide) dX9_strikes_98
    · replace h := mc_it h c14
      refine lv_aload_n hx hb dX9_strikes_63 rfl (lv_at hl 1 rfl) ?_
      refine mf_X9_7 C K hP kr_0 dX9_strikes_64 ?_
      refine lv_iload_n hx hb dX9_strikes_67 rfl (lv_at hl 0 rfl) ?_
      refine lv_iconst (v := 2) hx hb dX9_strikes_68 (by decide) ?_
      refine lv_iadd hx hb dX9_strikes_69 ?_
      refine lv_iconst (v := 0) hx hb dX9_strikes_70 (by decide) ?_
      obtain ⟨g15, h⟩ := mc_gd h
      obtain ⟨I16, eI16, h⟩ := mc_bn_e h
      refine ma_s16 hC K hP hS kr_1 g15 eI16 dX9_strikes_71 (fun H locs hP hS => ?_)
      refine lv_aload_n hx hb dX9_strikes_72 rfl (lv_at hl 1 rfl) ?_
      refine mf_X9_7 C K hP kr_0 dX9_strikes_73 ?_
      refine lv_iload_n hx hb dX9_strikes_76 rfl (lv_at hl 2 rfl) ?_
      refine lv_bipush (v := 7) hx hb dX9_strikes_77 (by decide) ?_
      refine lv_iadd hx hb dX9_strikes_79 ?_
      refine lv_dup2_11 hx hb dX9_strikes_80 rfl rfl ?_
      obtain ⟨g17, h⟩ := mc_gd h
      refine ma_l16 hC K hP kr_1 g17 dX9_strikes_81 ?_
      refine lv_iconst (v := 1) hx hb dX9_strikes_82 (by decide) ?_
      refine lv_iadd hx hb dX9_strikes_83 ?_
      obtain ⟨g18, h⟩ := mc_gd h
      obtain ⟨I19, eI19, h⟩ := mc_bn_e h
      refine ma_s16 hC K hP hS kr_1 g18 eI19 dX9_strikes_84 (fun H locs hP hS => ?_)
      refine lv_aload_n hx hb dX9_strikes_85 rfl (lv_at hl 1 rfl) ?_
      refine lv_iload_n hx hb dX9_strikes_86 rfl (lv_at hl 2 rfl) ?_
      refine lv_aload_n hx hb dX9_strikes_87 rfl (lv_at hl 1 rfl) ?_
      refine mf_X9_7 C K hP kr_0 dX9_strikes_88 ?_
      refine lv_iload_n hx hb dX9_strikes_91 rfl (lv_at hl 0 rfl) ?_
      obtain ⟨g20, h⟩ := mc_gd h
      refine ma_l16 hC K hP kr_1 g20 dX9_strikes_92 ?_
      refine lv_iconst (v := 1) hx hb dX9_strikes_93 (by decide) ?_
      obtain ⟨I21, e22, h⟩ := mc_ob_e h
      refine mg_Vv (As := [.int v1, .int (I19 1 x2.toNatClampNeg), .int 1]) (rest := []) (ct_X9_starts l (w := w) (I := I19) (R := R) e22) C K hP hS hl.1 kr_0 (by decide) rfl rfl ml_X9_60 wy_X9_starts wd_X9_starts rfl rfl rfl ⟨Nat.le_of_ble_eq_true rfl, Nat.le_of_ble_eq_true rfl⟩ (Nat.le_of_ble_eq_true rfl) ⟨Nat.zero_le _, Nat.zero_le _⟩ dX9_strikes_94 (fun H locs hP hS => ?_)
      refine lv_iconst (v := 1) hx hb dX9_strikes_97 (by decide) ?_
      cases h
      exact mt_zX hC hr hlk K hP hS (by decide) (by decide) dX9_strikes_98
  · replace h := mc_it h c10
    refine lv_iconst (v := 0) hx hb dX9_strikes_43 (by decide) ?_
    cases h
    exact mt_zX hC hr hlk K hP hS (by decide) (by decide) dX9_strikes_44
set_option maxHeartbeats 4000000 in
set_option maxRecDepth 100000 in
theorem bk_X9_second_B216 {p : Program} {l : Launch} {e : Env} {s : State} {m : MethodId} {args : Array Value} {below : List Frame} {meth : Method} {c : Code} (C : CallFix p m c cX9_second 10 s args mc_big RX9) (hr : meth.sig.returnType = (some .int)) (hlk : meth.locks = false) {w : mc_w} (K : mc_K mr_k 3 w s) {R : Nat → Nat → Option Nat} {F : Nat} {Iz : Nat → Nat → Int32} {rz : Int32} {k216 : (Nat → Nat → Int32) → Int32 → Int32 → Int32 → (Option ((Nat → Nat → Int32) × Int32))} (hk216 : ∀ (I : Nat → Nat → Int32) (v1 : Int32) (v4 : Int32) (v6 : Int32), k216 I v1 v4 v6 = some (Iz, rz) → ∀ {H : Heap} {locs : List Loc} {ls : Array Slot}, mc_P mr_k 3 w I R H → va_S (mc_A 3 w) s.heap H locs → lv_has ls 10 [(0, .ref (w.2.2.1 0)), (1, .int v1), (4, .int v4), (6, .int v6)] → W p l e ({ frames := 5, cells := 0, slots := 0, locals := 113 } : Room) s m args below meth c H locs 0 0 (MQ below (mc_Q (some (.int rz)) (mc_B mr_k 3 w Iz R) (mc_A 3 w)) args s 0 0 (mc_A 3 w)) (F0 m 216 ls [])) : ∀ (I : Nat → Nat → Int32) (v1 : Int32) (v4 : Int32) (v6 : Int32), mi_X9_second_B216 k216 F I v1 v4 v6 = some (Iz, rz) → ∀ {H : Heap} {locs : List Loc} {ls : Array Slot}, mc_P mr_k 3 w I R H → va_S (mc_A 3 w) s.heap H locs → lv_has ls 10 [(0, .ref (w.2.2.1 0)), (1, .int v1), (4, .int v4), (6, .int v6)] → W p l e ({ frames := 5, cells := 0, slots := 0, locals := 113 } : Room) s m args below meth c H locs 0 0 (MQ below (mc_Q (some (.int rz)) (mc_B mr_k 3 w Iz R) (mc_A 3 w)) args s 0 0 (mc_A 3 w)) (F0 m 216 ls []) := by
  intro I v1 v4 v6 h  H locs ls hP hS hl
  have hx := C.1
  have hb := C.2.1
  have hC := And.intro C.1 C.2.1
  unfold mi_X9_second_B216 at h
  refine lv_iload hx hb dX9_second_216 (lv_at hl 3 rfl) ?_
  refine lv_aload_n hx hb dX9_second_218 rfl (lv_at hl 0 rfl) ?_
  refine mf_X9_7 C K hP kr_0 dX9_second_219 ?_
  refine lv_iload_n hx hb dX9_second_222 rfl (lv_at hl 1 rfl) ?_
  refine lv_iconst (v := 5) hx hb dX9_second_223 (by decide) ?_
  refine lv_iadd hx hb dX9_second_224 ?_
  obtain ⟨g11, h⟩ := mc_gd h
  refine ma_l16 hC K hP kr_1 g11 dX9_second_225 ?_
  refine lv_icmp_ge (tgt := 249) hx hb dX9_second_226 (by decide) (fun c12 => ?_) (fun c12 => ?_)
  · replace h := mc_it h c12
    refine lv_iload hx hb dX9_second_249 (lv_at hl 2 rfl) ?_
    cases h
    exact mt_i hC hr hlk K hP hS dX9_second_251
  · replace h := mc_ie h c12
    refine lv_aload_n hx hb dX9_second_229 rfl (lv_at hl 0 rfl) ?_
    refine mf_X9_7 C K hP kr_0 dX9_second_230 ?_
    refine lv_iload_n hx hb dX9_second_233 rfl (lv_at hl 1 rfl) ?_
    refine lv_iload hx hb dX9_second_234 (lv_at hl 3 rfl) ?_
    refine mg_Si (As := [.int v1, .int v6]) (rest := [.ref (w.2.2.1 1)]) (ct_X9_messengerAt l (w := w) (I := I) (R := R) rfl) C K hP hS hl.1 ml_X9_54 wy_X9_messengerAt wd_X9_messengerAt rfl rfl rfl ⟨Nat.le_of_ble_eq_true rfl, Nat.le_of_ble_eq_true rfl⟩ (Nat.le_of_ble_eq_true rfl) ⟨Nat.zero_le _, Nat.zero_le _⟩ dX9_second_236 (fun H locs hP hS => ?_)
    refine lv_iconst (v := 1) hx hb dX9_second_239 (by decide) ?_
    refine lv_iadd hx hb dX9_second_240 ?_
    refine lv_iconst (v := 0) hx hb dX9_second_241 (by decide) ?_
    obtain ⟨g14, h⟩ := mc_gd h
    obtain ⟨I15, eI15, h⟩ := mc_bn_e h
    refine ma_s16 hC K hP hS kr_1 g14 eI15 dX9_second_242 (fun H locs hP hS => ?_)
    obtain ⟨x16, ex16, h⟩ := mc_bn_e h
    refine lv_iinc (v := x16) (lv' := [(6, .int x16), (0, .ref (w.2.2.1 0)), (1, .int v1), (4, .int v4)]) hx hb dX9_second_243 hl (k := 3) rfl (by rw [ex16]; rfl) (by decide) rfl (fun ls hl => ?_)
    refine lv_goto (tgt := 216) hx hb dX9_second_246 (by decide) ?_
    exact hk216 I15 v1 v4 x16 h  hP hS (lv_sub hl [1, 2, 3, 0] rfl)
theorem bk_X9_second_L216 {p : Program} {l : Launch} {e : Env} {s : State} {m : MethodId} {args : Array Value} {below : List Frame} {meth : Method} {c : Code} (C : CallFix p m c cX9_second 10 s args mc_big RX9) (hr : meth.sig.returnType = (some .int)) (hlk : meth.locks = false) {w : mc_w} (K : mc_K mr_k 3 w s) {R : Nat → Nat → Option Nat} {F : Nat} {Iz : Nat → Nat → Int32} {rz : Int32} : ∀ n : Nat, ∀ (I : Nat → Nat → Int32) (v1 : Int32) (v4 : Int32) (v6 : Int32), mi_X9_second_L216 F n I v1 v4 v6 = some (Iz, rz) → ∀ {H : Heap} {locs : List Loc} {ls : Array Slot}, mc_P mr_k 3 w I R H → va_S (mc_A 3 w) s.heap H locs → lv_has ls 10 [(0, .ref (w.2.2.1 0)), (1, .int v1), (4, .int v4), (6, .int v6)] → W p l e ({ frames := 5, cells := 0, slots := 0, locals := 113 } : Room) s m args below meth c H locs 0 0 (MQ below (mc_Q (some (.int rz)) (mc_B mr_k 3 w Iz R) (mc_A 3 w)) args s 0 0 (mc_A 3 w)) (F0 m 216 ls []) := by
  intro n
  induction n with
  | zero =>
    intro I v1 v4 v6 h
    cases h
  | succ n ih =>
    intro I v1 v4 v6 h
    exact bk_X9_second_B216 C hr hlk K  ih I v1 v4 v6 h
set_option maxHeartbeats 4000000 in
set_option maxRecDepth 100000 in
theorem bk_X9_second_B45 {p : Program} {l : Launch} {e : Env} {s : State} {m : MethodId} {args : Array Value} {below : List Frame} {meth : Method} {c : Code} (C : CallFix p m c cX9_second 10 s args mc_big RX9) (hr : meth.sig.returnType = (some .int)) (hlk : meth.locks = false) {w : mc_w} (K : mc_K mr_k 3 w s) {R : Nat → Nat → Option Nat} {F : Nat} {Iz : Nat → Nat → Int32} {rz : Int32} {k45 : (Nat → Nat → Int32) → Int32 → Int32 → Int32 → Int32 → (Option ((Nat → Nat → Int32) × Int32))} (hk45 : ∀ (I : Nat → Nat → Int32) (v1 : Int32) (v3 : Int32) (v4 : Int32) (v5 : Int32), k45 I v1 v3 v4 v5 = some (Iz, rz) → ∀ {H : Heap} {locs : List Loc} {ls : Array Slot}, mc_P mr_k 3 w I R H → va_S (mc_A 3 w) s.heap H locs → lv_has ls 10 [(0, .ref (w.2.2.1 0)), (1, .int v1), (3, .int v3), (4, .int v4), (5, .int v5)] → W p l e ({ frames := 5, cells := 0, slots := 0, locals := 113 } : Room) s m args below meth c H locs 0 0 (MQ below (mc_Q (some (.int rz)) (mc_B mr_k 3 w Iz R) (mc_A 3 w)) args s 0 0 (mc_A 3 w)) (F0 m 45 ls [])) : ∀ (I : Nat → Nat → Int32) (v1 : Int32) (v3 : Int32) (v4 : Int32) (v5 : Int32), mi_X9_second_B45 k45 F I v1 v3 v4 v5 = some (Iz, rz) → ∀ {H : Heap} {locs : List Loc} {ls : Array Slot}, mc_P mr_k 3 w I R H → va_S (mc_A 3 w) s.heap H locs → lv_has ls 10 [(0, .ref (w.2.2.1 0)), (1, .int v1), (3, .int v3), (4, .int v4), (5, .int v5)] → W p l e ({ frames := 5, cells := 0, slots := 0, locals := 113 } : Room) s m args below meth c H locs 0 0 (MQ below (mc_Q (some (.int rz)) (mc_B mr_k 3 w Iz R) (mc_A 3 w)) args s 0 0 (mc_A 3 w)) (F0 m 45 ls []) := by
  intro I v1 v3 v4 v5 h  H locs ls hP hS hl
  have hx := C.1
  have hb := C.2.1
  have hC := And.intro C.1 C.2.1
  unfold mi_X9_second_B45 at h
  refine lv_iload hx hb dX9_second_45 (lv_at hl 4 rfl) ?_
  refine lv_aload_n hx hb dX9_second_47 rfl (lv_at hl 0 rfl) ?_
  refine mf_X9_7 C K hP kr_0 dX9_second_48 ?_
  refine lv_iload_n hx hb dX9_second_51 rfl (lv_at hl 1 rfl) ?_
  refine lv_iconst (v := 5) hx hb dX9_second_52 (by decide) ?_
  refine lv_iadd hx hb dX9_second_53 ?_
  obtain ⟨g9, h⟩ := mc_gd h
  refine ma_l16 hC K hP kr_1 g9 dX9_second_54 ?_
  refine lv_icmp_ge (tgt := 213) hx hb dX9_second_55 (by decide) (fun c10 => ?_) (fun c10 => ?_)
  · replace h := mc_it h c10
    refine lv_iconst (v := 0) hx hb dX9_second_213 (by decide) ?_
    refine lv_istore (i := 6) (lv' := [(6, .int 0), (0, .ref (w.2.2.1 0)), (1, .int v1), (3, .int v3), (4, .int v4), (5, .int v5)]) hx hb dX9_second_214 hl (by decide) rfl (fun ls hl => ?_)
    exact bk_X9_second_L216 C hr hlk K  F I v1 v4 0 h  hP hS (lv_sub hl [1, 2, 4, 0] rfl)
  · replace h := mc_ie h c10
    refine lv_iload_n hx hb dX9_second_58 rfl (lv_at hl 1 rfl) ?_
    refine lv_iload hx hb dX9_second_59 (lv_at hl 4 rfl) ?_
    refine mg_Si (As := [.int v1, .int v5]) (rest := []) (ct_X9_messengerAt l (w := w) (I := I) (R := R) rfl) C K hP hS hl.1 ml_X9_54 wy_X9_messengerAt wd_X9_messengerAt rfl rfl rfl ⟨Nat.le_of_ble_eq_true rfl, Nat.le_of_ble_eq_true rfl⟩ (Nat.le_of_ble_eq_true rfl) ⟨Nat.zero_le _, Nat.zero_le _⟩ dX9_second_61 (fun H locs hP hS => ?_)
    obtain ⟨x18, ex18, h⟩ := mc_bn_e h
    refine mv_top ex18 ?_
    refine lv_istore (i := 6) (lv' := [(6, .int x18), (0, .ref (w.2.2.1 0)), (1, .int v1), (3, .int v3), (4, .int v4), (5, .int v5)]) hx hb dX9_second_64 hl (by decide) rfl (fun ls hl => ?_)
    refine lv_aload_n hx hb dX9_second_66 rfl (lv_at hl 1 rfl) ?_
    refine mf_X9_7 C K hP kr_0 dX9_second_67 ?_
    refine lv_iload hx hb dX9_second_70 (lv_at hl 0 rfl) ?_
    obtain ⟨g19, h⟩ := mc_gd h
    refine ma_l16 hC K hP kr_1 g19 dX9_second_72 ?_
    obtain ⟨x20, ex20, h⟩ := mc_bn_e h
    refine mv_top ex20 ?_
    refine lv_istore (i := 7) (lv' := [(7, .int x20), (6, .int x18), (0, .ref (w.2.2.1 0)), (1, .int v1), (3, .int v3), (4, .int v4), (5, .int v5)]) hx hb dX9_second_73 hl (by decide) rfl (fun ls hl => ?_)
    refine lv_aload_n hx hb dX9_second_75 rfl (lv_at hl 2 rfl) ?_
    refine lv_iload_n hx hb dX9_second_76 rfl (lv_at hl 3 rfl) ?_
    refine lv_iload hx hb dX9_second_77 (lv_at hl 0 rfl) ?_
    refine lv_iload hx hb dX9_second_79 (lv_at hl 0 rfl) ?_
    refine lv_iload_n hx hb dX9_second_81 rfl (lv_at hl 4 rfl) ?_
    refine lv_isub hx hb dX9_second_82 ?_
    obtain ⟨r21, e22, h⟩ := mc_ob_e h
    refine mg_Vi (As := [.int v1, .int x20, .int (x20 - v3)]) (rest := []) (ct_X9_met l (w := w) (I := I) (R := R) e22) C K hP hS hl.1 kr_0 (by decide) rfl rfl ml_X9_64 wy_X9_met wd_X9_met rfl rfl rfl ⟨Nat.le_of_ble_eq_true rfl, Nat.le_of_ble_eq_true rfl⟩ (Nat.le_of_ble_eq_true rfl) ⟨Nat.zero_le _, Nat.zero_le _⟩ dX9_second_83 (fun H locs hP hS => ?_)
    refine lv_istore (i := 8) (lv' := [(8, .int r21), (7, .int x20), (6, .int x18), (0, .ref (w.2.2.1 0)), (1, .int v1), (3, .int v3), (4, .int v4), (5, .int v5)]) hx hb dX9_second_86 hl (by decide) rfl (fun ls hl => ?_)
    refine lv_aload_n hx hb dX9_second_88 rfl (lv_at hl 3 rfl) ?_
    refine mf_X9_7 C K hP kr_0 dX9_second_89 ?_
    refine lv_iload hx hb dX9_second_92 (lv_at hl 2 rfl) ?_
    refine lv_iconst (v := 1) hx hb dX9_second_94 (by decide) ?_
    refine lv_iadd hx hb dX9_second_95 ?_
    obtain ⟨g23, h⟩ := mc_gd h
    refine ma_l16 hC K hP kr_1 g23 dX9_second_96 ?_
    refine lv_iconst (v := 1) hx hb dX9_second_97 (by decide) ?_
    refine lv_icmp_ne (tgt := 107) hx hb dX9_second_98 (by decide) (fun c24 => ?_) (fun c24 => ?_)
    · replace h := mc_ie h c24
      refine lv_iload hx hb dX9_second_107 (lv_at hl 0 rfl) ?_
      refine lv_sipush (v := (-1005)) hx hb dX9_second_109 (by decide) ?_
      refine lv_icmp_eq (tgt := 166) hx hb dX9_second_112 (by decide) (fun c25 => ?_) (fun c25 => ?_)
      · replace h := mc_it h c25
        refine lv_iload hx hb dX9_second_166 (lv_at hl 1 rfl) ?_
        refine lv_iload_n hx hb dX9_second_168 rfl (lv_at hl 5 rfl) ?_
        refine lv_isub hx hb dX9_second_169 ?_
        refine lv_if_gt (tgt := 196) hx hb dX9_second_170 (by decide) (fun c26 => ?_) (fun c26 => ?_)
        · replace h := mc_it h c26
          refine lv_aload_n hx hb dX9_second_196 rfl (lv_at hl 3 rfl) ?_
          refine mf_X9_7 C K hP kr_0 dX9_second_197 ?_
          refine lv_iload hx hb dX9_second_200 (lv_at hl 2 rfl) ?_
          refine lv_iload hx hb dX9_second_202 (lv_at hl 1 rfl) ?_
          refine lv_iload_n hx hb dX9_second_204 rfl (lv_at hl 5 rfl) ?_
          refine lv_isub hx hb dX9_second_205 ?_
          obtain ⟨g27, h⟩ := mc_gd h
          obtain ⟨I28, eI28, h⟩ := mc_bn_e h
          refine ma_s16 hC K hP hS kr_1 g27 eI28 dX9_second_206 (fun H locs hP hS => ?_)
          obtain ⟨x29, ex29, h⟩ := mc_bn_e h
          refine lv_iinc (v := x29) (lv' := [(5, .int x29), (8, .int r21), (7, .int x20), (6, .int x18), (0, .ref (w.2.2.1 0)), (1, .int v1), (3, .int v3), (4, .int v4)]) hx hb dX9_second_207 hl (k := 7) rfl (by rw [ex29]; rfl) (by decide) rfl (fun ls hl => ?_)
          refine lv_goto (tgt := 45) hx hb dX9_second_210 (by decide) ?_
          exact hk45 I28 v1 v3 v4 x29 h  hP hS (lv_sub hl [4, 5, 6, 7, 0] rfl)
        · replace h := mc_ie h c26
          refine lv_aload_n hx hb dX9_second_173 rfl (lv_at hl 3 rfl) ?_
          refine lv_iload_n hx hb dX9_second_174 rfl (lv_at hl 4 rfl) ?_
          refine lv_iload hx hb dX9_second_175 (lv_at hl 7 rfl) ?_
          obtain ⟨I30, e31, h⟩ := mc_ob_e h
          refine mg_Vv (As := [.int v1, .int v5]) (rest := []) (ct_X9_removes l (w := w) (I := I) (R := R) e31) C K hP hS hl.1 kr_0 (by decide) rfl rfl ml_X9_68 wy_X9_removes wd_X9_removes rfl rfl rfl ⟨Nat.le_of_ble_eq_true rfl, Nat.le_of_ble_eq_true rfl⟩ (Nat.le_of_ble_eq_true rfl) ⟨Nat.zero_le _, Nat.zero_le _⟩ dX9_second_177 (fun H locs hP hS => ?_)
          refine lv_aload_n hx hb dX9_second_180 rfl (lv_at hl 3 rfl) ?_
          refine mf_X9_7 C K hP kr_0 dX9_second_181 ?_
          refine lv_iload_n hx hb dX9_second_184 rfl (lv_at hl 4 rfl) ?_
          refine lv_bipush (v := 9) hx hb dX9_second_185 (by decide) ?_
          refine lv_iadd hx hb dX9_second_187 ?_
          refine lv_dup2_11 hx hb dX9_second_188 rfl rfl ?_
          obtain ⟨g32, h⟩ := mc_gd h
          refine ma_l16 hC K hP kr_1 g32 dX9_second_189 ?_
          refine lv_iconst (v := 1) hx hb dX9_second_190 (by decide) ?_
          refine lv_iadd hx hb dX9_second_191 ?_
          obtain ⟨g33, h⟩ := mc_gd h
          obtain ⟨I34, eI34, h⟩ := mc_bn_e h
          refine ma_s16 hC K hP hS kr_1 g33 eI34 dX9_second_192 (fun H locs hP hS => ?_)
          refine lv_goto (tgt := 210) hx hb dX9_second_193 (by decide) ?_
          refine lv_goto (tgt := 45) hx hb dX9_second_210 (by decide) ?_
          exact hk45 I34 v1 v3 v4 v5 h  hP hS (lv_sub hl [3, 4, 5, 6, 7] rfl)
      · replace h := mc_ie h c25
        refine lv_aload_n hx hb dX9_second_115 rfl (lv_at hl 3 rfl) ?_
        refine lv_iload_n hx hb dX9_second_116 rfl (lv_at hl 4 rfl) ?_
        refine lv_iload hx hb dX9_second_117 (lv_at hl 7 rfl) ?_
        obtain ⟨I35, e36, h⟩ := mc_ob_e h
        refine mg_Vv (As := [.int v1, .int v5]) (rest := []) (ct_X9_removes l (w := w) (I := I) (R := R) e36) C K hP hS hl.1 kr_0 (by decide) rfl rfl ml_X9_68 wy_X9_removes wd_X9_removes rfl rfl rfl ⟨Nat.le_of_ble_eq_true rfl, Nat.le_of_ble_eq_true rfl⟩ (Nat.le_of_ble_eq_true rfl) ⟨Nat.zero_le _, Nat.zero_le _⟩ dX9_second_119 (fun H locs hP hS => ?_)
        refine lv_aload_n hx hb dX9_second_122 rfl (lv_at hl 3 rfl) ?_
        refine mf_X9_7 C K hP kr_0 dX9_second_123 ?_
        refine lv_iload_n hx hb dX9_second_126 rfl (lv_at hl 4 rfl) ?_
        refine lv_iconst (v := 5) hx hb dX9_second_127 (by decide) ?_
        refine lv_iadd hx hb dX9_second_128 ?_
        obtain ⟨g37, h⟩ := mc_gd h
        refine ma_l16 hC K hP kr_1 g37 dX9_second_129 ?_
        obtain ⟨x38, ex38, h⟩ := mc_bn_e h
        refine mv_top ex38 ?_
        refine lv_istore (i := 9) (lv' := [(9, .int x38), (8, .int r21), (7, .int x20), (6, .int x18), (0, .ref (w.2.2.1 0)), (1, .int v1), (3, .int v3), (4, .int v4), (5, .int v5)]) hx hb dX9_second_130 hl (by decide) rfl (fun ls hl => ?_)
        refine lv_iload hx hb dX9_second_132 (lv_at hl 7 rfl) ?_
        refine lv_aload_n hx hb dX9_second_134 rfl (lv_at hl 4 rfl) ?_
        refine lv_iload_n hx hb dX9_second_135 rfl (lv_at hl 5 rfl) ?_
        refine lv_iload hx hb dX9_second_136 (lv_at hl 1 rfl) ?_
        obtain ⟨I39, r40, e41, h⟩ := mc_ob2_e h
        refine mg_Vz (As := [.int v1, .int r21]) (rest := [.int v4]) (ct_X9_strikes l (w := w) (I := I35) (R := R) e41) C K hP hS hl.1 kr_0 (by decide) rfl rfl ml_X9_71 wy_X9_strikes wd_X9_strikes rfl rfl rfl ⟨Nat.le_of_ble_eq_true rfl, Nat.le_of_ble_eq_true rfl⟩ (Nat.le_of_ble_eq_true rfl) ⟨Nat.zero_le _, Nat.zero_le _⟩ dX9_second_138 (fun H locs hP z42 hS => ?_)
        refine mg_Si (As := [.int r40]) (rest := [.int v4]) (ct_X9_flag l (w := w) (I := I39) (R := R) rfl) C K hP hS hl.1 ml_X9_74 wy_X9_flag wd_X9_flag rfl rfl rfl ⟨Nat.le_of_ble_eq_true rfl, Nat.le_of_ble_eq_true rfl⟩ (Nat.le_of_ble_eq_true rfl) ⟨Nat.zero_le _, Nat.zero_le _⟩ dX9_second_141 (fun H locs hP hS => ?_)
        refine lv_iadd hx hb dX9_second_144 ?_
        obtain ⟨x44, ex44, h⟩ := mc_bn_e h
        refine mv_top ex44 ?_
        refine lv_istore (i := 4) (lv' := [(4, .int x44), (9, .int x38), (8, .int r21), (7, .int x20), (6, .int x18), (0, .ref (w.2.2.1 0)), (1, .int v1), (3, .int v3), (5, .int v5)]) hx hb dX9_second_145 hl (by decide) rfl (fun ls hl => ?_)
        refine lv_iload hx hb dX9_second_147 (lv_at hl 8 rfl) ?_
        refine lv_aload_n hx hb dX9_second_149 rfl (lv_at hl 5 rfl) ?_
        refine mf_X9_7 C K hP kr_0 dX9_second_150 ?_
        refine lv_iload_n hx hb dX9_second_153 rfl (lv_at hl 6 rfl) ?_
        refine lv_iconst (v := 5) hx hb dX9_second_154 (by decide) ?_
        refine lv_iadd hx hb dX9_second_155 ?_
        obtain ⟨g45, h⟩ := mc_gd h
        refine ma_l16 hC K hP kr_1 g45 dX9_second_156 ?_
        refine lv_iload hx hb dX9_second_157 (lv_at hl 1 rfl) ?_
        refine lv_isub hx hb dX9_second_159 ?_
        refine lv_iadd hx hb dX9_second_160 ?_
        obtain ⟨x46, ex46, h⟩ := mc_bn_e h
        refine mv_top ex46 ?_
        refine lv_istore (i := 5) (lv' := [(5, .int x46), (4, .int x44), (9, .int x38), (8, .int r21), (7, .int x20), (6, .int x18), (0, .ref (w.2.2.1 0)), (1, .int v1), (3, .int v3)]) hx hb dX9_second_161 hl (by decide) rfl (fun ls hl => ?_)
        refine lv_goto (tgt := 210) hx hb dX9_second_163 (by decide) ?_
        refine lv_goto (tgt := 45) hx hb dX9_second_210 (by decide) ?_
        exact hk45 I39 v1 v3 x44 x46 h  hP hS (lv_sub hl [6, 7, 8, 1, 0] rfl)
    · replace h := mc_it h c24
      obtain ⟨x47, ex47, h⟩ := mc_bn_e h
      refine lv_iinc (v := x47) (lv' := [(5, .int x47), (8, .int r21), (7, .int x20), (6, .int x18), (0, .ref (w.2.2.1 0)), (1, .int v1), (3, .int v3), (4, .int v4)]) hx hb dX9_second_101 hl (k := 7) rfl (by rw [ex47]; rfl) (by decide) rfl (fun ls hl => ?_)
      refine lv_goto (tgt := 210) hx hb dX9_second_104 (by decide) ?_
      refine lv_goto (tgt := 45) hx hb dX9_second_210 (by decide) ?_
      exact hk45 I v1 v3 v4 x47 h  hP hS (lv_sub hl [4, 5, 6, 7, 0] rfl)
theorem bk_X9_second_L45 {p : Program} {l : Launch} {e : Env} {s : State} {m : MethodId} {args : Array Value} {below : List Frame} {meth : Method} {c : Code} (C : CallFix p m c cX9_second 10 s args mc_big RX9) (hr : meth.sig.returnType = (some .int)) (hlk : meth.locks = false) {w : mc_w} (K : mc_K mr_k 3 w s) {R : Nat → Nat → Option Nat} {F : Nat} {Iz : Nat → Nat → Int32} {rz : Int32} : ∀ n : Nat, ∀ (I : Nat → Nat → Int32) (v1 : Int32) (v3 : Int32) (v4 : Int32) (v5 : Int32), mi_X9_second_L45 F n I v1 v3 v4 v5 = some (Iz, rz) → ∀ {H : Heap} {locs : List Loc} {ls : Array Slot}, mc_P mr_k 3 w I R H → va_S (mc_A 3 w) s.heap H locs → lv_has ls 10 [(0, .ref (w.2.2.1 0)), (1, .int v1), (3, .int v3), (4, .int v4), (5, .int v5)] → W p l e ({ frames := 5, cells := 0, slots := 0, locals := 113 } : Room) s m args below meth c H locs 0 0 (MQ below (mc_Q (some (.int rz)) (mc_B mr_k 3 w Iz R) (mc_A 3 w)) args s 0 0 (mc_A 3 w)) (F0 m 45 ls []) := by
  intro n
  induction n with
  | zero =>
    intro I v1 v3 v4 v5 h
    cases h
  | succ n ih =>
    intro I v1 v3 v4 v5 h
    exact bk_X9_second_B45 C hr hlk K  ih I v1 v3 v4 v5 h
set_option maxHeartbeats 4000000 in
set_option maxRecDepth 100000 in
theorem ct_X9_second (l : Launch) {w : mc_w} {I : Nat → Nat → Int32} {R : Nat → Nat → Option Nat} {F : Nat} {v1 : Int32} {Iz : Nat → Nat → Int32} {rz : Int32} (h : mi_X9_second F I v1 = some (Iz, rz)) : Met l yX9_second (Cond.code yX9_second cX9_second 10 (some .int) :: mc_big) ({ frames := 5, cells := 0, slots := 0, locals := 113 } : Room) (va_Pc [.ref (w.2.2.1 0), .int v1] (mc_B mr_k 3 w I R)) (mc_Q (some (.int rz)) (mc_B mr_k 3 w Iz R) (mc_A 3 w)) 0 0 (mc_A 3 w) := by
  refine Met.ofW (cc := cX9_second) (maxL := 10) (ret := (some .int)) (by decide) rfl ?_
  intro p e s m args below meth c s₁ B hml hv
  obtain ⟨rfl, hP, K⟩ := hv
  have hown : s.vm.findClass RX9 = some m.cls := findClass_of_methodNamed B.named
  have C : CallFix p m c cX9_second 10 s _ mc_big RX9 := ⟨B.exec, B.bytes, hml, hown, fun w hw => atoms_spec B.pre w (List.mem_cons_of_mem _ hw)⟩
  have hx := C.1
  have hb := C.2.1
  have hC := And.intro C.1 C.2.1
  have hr := B.returns
  have hlk := B.notSynchronized
  have hS : va_S (mc_A 3 w) s.heap s.heap [] := va_S.rf
  have hl := lv_entry ([.ref (w.2.2.1 0), .int v1]) (n := 10) (Nat.le_of_ble_eq_true rfl)
  rw [lg_entry_eq]
  generalize (lg_sl ([.ref (w.2.2.1 0), .int v1]) ++ List.replicate (10 - (lg_sl ([.ref (w.2.2.1 0), .int v1])).length) Slot.unset).toArray = ls at hl ⊢
  have hl : lv_has ls 10 [(0, .ref (w.2.2.1 0)), (1, .int v1)] := hl
  unfold mi_X9_second at h
  refine lv_aload_n hx hb dX9_second_0 rfl (lv_at hl 0 rfl) ?_
  refine mf_X9_7 C K hP kr_0 dX9_second_1 ?_
  refine lv_iload_n hx hb dX9_second_4 rfl (lv_at hl 1 rfl) ?_
  refine lv_iconst (v := 0) hx hb dX9_second_5 (by decide) ?_
  refine lv_iadd hx hb dX9_second_6 ?_
  refine lv_dup2_11 hx hb dX9_second_7 rfl rfl ?_
  obtain ⟨g1, h⟩ := mc_gd h
  refine ma_l16 hC K hP kr_1 g1 dX9_second_8 ?_
  refine lv_iconst (v := 1) hx hb dX9_second_9 (by decide) ?_
  refine lv_iadd hx hb dX9_second_10 ?_
  obtain ⟨g2, h⟩ := mc_gd h
  obtain ⟨I3, eI3, h⟩ := mc_bn_e h
  refine ma_s16 hC K hP hS kr_1 g2 eI3 dX9_second_11 (fun H locs hP hS => ?_)
  refine lv_aload_n hx hb dX9_second_12 rfl (lv_at hl 0 rfl) ?_
  refine lv_iload_n hx hb dX9_second_13 rfl (lv_at hl 1 rfl) ?_
  obtain ⟨r4, e5, h⟩ := mc_ob_e h
  refine mg_Vi (As := [.int v1]) (rest := []) (ct_X9_counted l (w := w) (I := I3) (R := R) e5) C K hP hS hl.1 kr_0 (by decide) rfl rfl ml_X9_45 wy_X9_counted wd_X9_counted rfl rfl rfl ⟨Nat.le_of_ble_eq_true rfl, Nat.le_of_ble_eq_true rfl⟩ (Nat.le_of_ble_eq_true rfl) ⟨Nat.zero_le _, Nat.zero_le _⟩ dX9_second_14 (fun H locs hP hS => ?_)
  refine lv_istore_n (i := 2) (lv' := [(2, .int r4), (0, .ref (w.2.2.1 0)), (1, .int v1)]) hx hb dX9_second_17 rfl hl (by decide) rfl (fun ls hl => ?_)
  refine lv_iload_n hx hb dX9_second_18 rfl (lv_at hl 0 rfl) ?_
  refine lv_bipush (v := 6) hx hb dX9_second_19 (by decide) ?_
  refine lv_icmp_ne (tgt := 26) hx hb dX9_second_21 (by decide) (fun c6 => ?_) (fun c6 => ?_)
  · replace h := mc_ie h c6
    refine lv_iload_n hx hb dX9_second_26 rfl (lv_at hl 0 rfl) ?_
    refine lv_iconst (v := 4) hx hb dX9_second_27 (by decide) ?_
    refine lv_icmp_le (tgt := 35) hx hb dX9_second_28 (by decide) (fun c7 => ?_) (fun c7 => ?_)
    · replace h := mc_it h c7
      refine lv_iconst (v := 5) hx hb dX9_second_35 (by decide) ?_
      refine lv_iload_n hx hb dX9_second_36 rfl (lv_at hl 0 rfl) ?_
      refine lv_isub hx hb dX9_second_37 ?_
      obtain ⟨x8, ex8, h⟩ := mc_bn_e h
      refine mv_top ex8 ?_
      refine lv_istore_n (i := 3) (lv' := [(3, .int x8), (2, .int r4), (0, .ref (w.2.2.1 0)), (1, .int v1)]) hx hb dX9_second_38 rfl hl (by decide) rfl (fun ls hl => ?_)
      refine lv_iconst (v := 0) hx hb dX9_second_39 (by decide) ?_
      refine lv_istore (i := 4) (lv' := [(4, .int 0), (3, .int x8), (2, .int r4), (0, .ref (w.2.2.1 0)), (1, .int v1)]) hx hb dX9_second_40 hl (by decide) rfl (fun ls hl => ?_)
      refine lv_iconst (v := 0) hx hb dX9_second_42 (by decide) ?_
      refine lv_istore (i := 5) (lv' := [(5, .int 0), (4, .int 0), (3, .int x8), (2, .int r4), (0, .ref (w.2.2.1 0)), (1, .int v1)]) hx hb dX9_second_43 hl (by decide) rfl (fun ls hl => ?_)
      exact bk_X9_second_L45 C hr hlk K  F I3 v1 x8 0 0 h  hP hS (lv_sub hl [4, 5, 2, 1, 0] rfl)
    · replace h := mc_ie h c7
      refine lv_iconst (v := 1) hx hb dX9_second_31 (by decide) ?_
      refine lv_goto (tgt := 38) hx hb dX9_second_32 (by decide) ?_
      refine lv_istore_n (i := 3) (lv' := [(3, .int 1), (2, .int r4), (0, .ref (w.2.2.1 0)), (1, .int v1)]) hx hb dX9_second_38 rfl hl (by decide) rfl (fun ls hl => ?_)
      refine lv_iconst (v := 0) hx hb dX9_second_39 (by decide) ?_
      refine lv_istore (i := 4) (lv' := [(4, .int 0), (3, .int 1), (2, .int r4), (0, .ref (w.2.2.1 0)), (1, .int v1)]) hx hb dX9_second_40 hl (by decide) rfl (fun ls hl => ?_)
      refine lv_iconst (v := 0) hx hb dX9_second_42 (by decide) ?_
      refine lv_istore (i := 5) (lv' := [(5, .int 0), (4, .int 0), (3, .int 1), (2, .int r4), (0, .ref (w.2.2.1 0)), (1, .int v1)]) hx hb dX9_second_43 hl (by decide) rfl (fun ls hl => ?_)
      exact bk_X9_second_L45 C hr hlk K  F I3 v1 1 0 0 h  hP hS (lv_sub hl [4, 5, 2, 1, 0] rfl)
  · replace h := mc_it h c6
    refine lv_iconst (v := 0) hx hb dX9_second_24 (by decide) ?_
    cases h
    exact mt_i hC hr hlk K hP hS dX9_second_25
set_option maxHeartbeats 4000000 in
set_option maxRecDepth 100000 in
theorem bk_X9_seconds_B5 {p : Program} {l : Launch} {e : Env} {s : State} {m : MethodId} {args : Array Value} {below : List Frame} {meth : Method} {c : Code} (C : CallFix p m c cX9_seconds 5 s args mc_big RX9) (hr : meth.sig.returnType = (some .int)) (hlk : meth.locks = false) {w : mc_w} (K : mc_K mr_k 3 w s) {R : Nat → Nat → Option Nat} {F : Nat} {Iz : Nat → Nat → Int32} {rz : Int32} {k5 : (Nat → Nat → Int32) → Int32 → Int32 → Int32 → Int32 → (Option ((Nat → Nat → Int32) × Int32))} (hk5 : ∀ (I : Nat → Nat → Int32) (v1 : Int32) (v2 : Int32) (v3 : Int32) (v4 : Int32), k5 I v1 v2 v3 v4 = some (Iz, rz) → ∀ {H : Heap} {locs : List Loc} {ls : Array Slot}, mc_P mr_k 3 w I R H → va_S (mc_A 3 w) s.heap H locs → lv_has ls 5 [(0, .ref (w.2.2.1 0)), (1, .int v1), (2, .int v2), (3, .int v3), (4, .int v4)] → W p l e ({ frames := 6, cells := 0, slots := 0, locals := 142 } : Room) s m args below meth c H locs 0 0 (MQ below (mc_Q (some (.int rz)) (mc_B mr_k 3 w Iz R) (mc_A 3 w)) args s 0 0 (mc_A 3 w)) (F0 m 5 ls [])) : ∀ (I : Nat → Nat → Int32) (v1 : Int32) (v2 : Int32) (v3 : Int32) (v4 : Int32), mi_X9_seconds_B5 k5 F I v1 v2 v3 v4 = some (Iz, rz) → ∀ {H : Heap} {locs : List Loc} {ls : Array Slot}, mc_P mr_k 3 w I R H → va_S (mc_A 3 w) s.heap H locs → lv_has ls 5 [(0, .ref (w.2.2.1 0)), (1, .int v1), (2, .int v2), (3, .int v3), (4, .int v4)] → W p l e ({ frames := 6, cells := 0, slots := 0, locals := 142 } : Room) s m args below meth c H locs 0 0 (MQ below (mc_Q (some (.int rz)) (mc_B mr_k 3 w Iz R) (mc_A 3 w)) args s 0 0 (mc_A 3 w)) (F0 m 5 ls []) := by
  intro I v1 v2 v3 v4 h  H locs ls hP hS hl
  have hx := C.1
  have hb := C.2.1
  have hC := And.intro C.1 C.2.1
  unfold mi_X9_seconds_B5 at h
  refine lv_iload hx hb dX9_seconds_5 (lv_at hl 4 rfl) ?_
  refine lv_iload_n hx hb dX9_seconds_7 rfl (lv_at hl 2 rfl) ?_
  refine lv_icmp_ge (tgt := 25) hx hb dX9_seconds_8 (by decide) (fun c1 => ?_) (fun c1 => ?_)
  · replace h := mc_it h c1
    refine lv_iload_n hx hb dX9_seconds_25 rfl (lv_at hl 3 rfl) ?_
    cases h
    exact mt_i hC hr hlk K hP hS dX9_seconds_26
  · replace h := mc_ie h c1
    refine lv_iload_n hx hb dX9_seconds_11 rfl (lv_at hl 3 rfl) ?_
    refine lv_aload_n hx hb dX9_seconds_12 rfl (lv_at hl 0 rfl) ?_
    refine lv_iload_n hx hb dX9_seconds_13 rfl (lv_at hl 1 rfl) ?_
    obtain ⟨I2, r3, e4, h⟩ := mc_ob2_e h
    refine mg_Vi (As := [.int v1]) (rest := [.int v3]) (ct_X9_second l (w := w) (I := I) (R := R) e4) C K hP hS hl.1 kr_0 (by decide) rfl rfl ml_X9_78 wy_X9_second wd_X9_second rfl rfl rfl ⟨Nat.le_of_ble_eq_true rfl, Nat.le_of_ble_eq_true rfl⟩ (Nat.le_of_ble_eq_true rfl) ⟨Nat.zero_le _, Nat.zero_le _⟩ dX9_seconds_14 (fun H locs hP hS => ?_)
    refine lv_iadd hx hb dX9_seconds_17 ?_
    obtain ⟨x5, ex5, h⟩ := mc_bn_e h
    refine mv_top ex5 ?_
    refine lv_istore_n (i := 3) (lv' := [(3, .int x5), (0, .ref (w.2.2.1 0)), (1, .int v1), (2, .int v2), (4, .int v4)]) hx hb dX9_seconds_18 rfl hl (by decide) rfl (fun ls hl => ?_)
    obtain ⟨x6, ex6, h⟩ := mc_bn_e h
    refine lv_iinc (v := x6) (lv' := [(4, .int x6), (3, .int x5), (0, .ref (w.2.2.1 0)), (1, .int v1), (2, .int v2)]) hx hb dX9_seconds_19 hl (k := 4) rfl (by rw [ex6]; rfl) (by decide) rfl (fun ls hl => ?_)
    refine lv_goto (tgt := 5) hx hb dX9_seconds_22 (by decide) ?_
    exact hk5 I2 v1 v2 x5 x6 h  hP hS (lv_sub hl [2, 3, 4, 1, 0] rfl)
theorem bk_X9_seconds_L5 {p : Program} {l : Launch} {e : Env} {s : State} {m : MethodId} {args : Array Value} {below : List Frame} {meth : Method} {c : Code} (C : CallFix p m c cX9_seconds 5 s args mc_big RX9) (hr : meth.sig.returnType = (some .int)) (hlk : meth.locks = false) {w : mc_w} (K : mc_K mr_k 3 w s) {R : Nat → Nat → Option Nat} {F : Nat} {Iz : Nat → Nat → Int32} {rz : Int32} : ∀ n : Nat, ∀ (I : Nat → Nat → Int32) (v1 : Int32) (v2 : Int32) (v3 : Int32) (v4 : Int32), mi_X9_seconds_L5 F n I v1 v2 v3 v4 = some (Iz, rz) → ∀ {H : Heap} {locs : List Loc} {ls : Array Slot}, mc_P mr_k 3 w I R H → va_S (mc_A 3 w) s.heap H locs → lv_has ls 5 [(0, .ref (w.2.2.1 0)), (1, .int v1), (2, .int v2), (3, .int v3), (4, .int v4)] → W p l e ({ frames := 6, cells := 0, slots := 0, locals := 142 } : Room) s m args below meth c H locs 0 0 (MQ below (mc_Q (some (.int rz)) (mc_B mr_k 3 w Iz R) (mc_A 3 w)) args s 0 0 (mc_A 3 w)) (F0 m 5 ls []) := by
  intro n
  induction n with
  | zero =>
    intro I v1 v2 v3 v4 h
    cases h
  | succ n ih =>
    intro I v1 v2 v3 v4 h
    exact bk_X9_seconds_B5 C hr hlk K  ih I v1 v2 v3 v4 h
set_option maxHeartbeats 4000000 in
set_option maxRecDepth 100000 in
theorem ct_X9_seconds (l : Launch) {w : mc_w} {I : Nat → Nat → Int32} {R : Nat → Nat → Option Nat} {F : Nat} {v1 : Int32} {v2 : Int32} {Iz : Nat → Nat → Int32} {rz : Int32} (h : mi_X9_seconds F I v1 v2 = some (Iz, rz)) : Met l yX9_seconds (Cond.code yX9_seconds cX9_seconds 5 (some .int) :: mc_big) ({ frames := 6, cells := 0, slots := 0, locals := 142 } : Room) (va_Pc [.ref (w.2.2.1 0), .int v1, .int v2] (mc_B mr_k 3 w I R)) (mc_Q (some (.int rz)) (mc_B mr_k 3 w Iz R) (mc_A 3 w)) 0 0 (mc_A 3 w) := by
  refine Met.ofW (cc := cX9_seconds) (maxL := 5) (ret := (some .int)) (by decide) rfl ?_
  intro p e s m args below meth c s₁ B hml hv
  obtain ⟨rfl, hP, K⟩ := hv
  have hown : s.vm.findClass RX9 = some m.cls := findClass_of_methodNamed B.named
  have C : CallFix p m c cX9_seconds 5 s _ mc_big RX9 := ⟨B.exec, B.bytes, hml, hown, fun w hw => atoms_spec B.pre w (List.mem_cons_of_mem _ hw)⟩
  have hx := C.1
  have hb := C.2.1
  have hC := And.intro C.1 C.2.1
  have hr := B.returns
  have hlk := B.notSynchronized
  have hS : va_S (mc_A 3 w) s.heap s.heap [] := va_S.rf
  have hl := lv_entry ([.ref (w.2.2.1 0), .int v1, .int v2]) (n := 5) (Nat.le_of_ble_eq_true rfl)
  rw [lg_entry_eq]
  generalize (lg_sl ([.ref (w.2.2.1 0), .int v1, .int v2]) ++ List.replicate (5 - (lg_sl ([.ref (w.2.2.1 0), .int v1, .int v2])).length) Slot.unset).toArray = ls at hl ⊢
  have hl : lv_has ls 5 [(0, .ref (w.2.2.1 0)), (1, .int v1), (2, .int v2)] := hl
  unfold mi_X9_seconds at h
  refine lv_iconst (v := 0) hx hb dX9_seconds_0 (by decide) ?_
  refine lv_istore_n (i := 3) (lv' := [(3, .int 0), (0, .ref (w.2.2.1 0)), (1, .int v1), (2, .int v2)]) hx hb dX9_seconds_1 rfl hl (by decide) rfl (fun ls hl => ?_)
  refine lv_iconst (v := 0) hx hb dX9_seconds_2 (by decide) ?_
  refine lv_istore (i := 4) (lv' := [(4, .int 0), (3, .int 0), (0, .ref (w.2.2.1 0)), (1, .int v1), (2, .int v2)]) hx hb dX9_seconds_3 hl (by decide) rfl (fun ls hl => ?_)
  exact bk_X9_seconds_L5 C hr hlk K  F I v1 v2 0 0 h  hP hS (lv_sub hl [2, 3, 4, 1, 0] rfl)
set_option maxHeartbeats 4000000 in
set_option maxRecDepth 100000 in
theorem bk_X9_jerks_B13 {p : Program} {l : Launch} {e : Env} {s : State} {m : MethodId} {args : Array Value} {below : List Frame} {meth : Method} {c : Code} (C : CallFix p m c cX9_jerks 3 s args mc_big RX9) (hr : meth.sig.returnType = none) (hlk : meth.locks = false) {w : mc_w} (K : mc_K mr_k 3 w s) {R : Nat → Nat → Option Nat} {F : Nat} {Iz : Nat → Nat → Int32} {k13 : (Nat → Nat → Int32) → Int32 → Int32 → (Option ((Nat → Nat → Int32)))} (hk13 : ∀ (I : Nat → Nat → Int32) (v1 : Int32) (v2 : Int32), k13 I v1 v2 = some Iz → ∀ {H : Heap} {locs : List Loc} {ls : Array Slot}, mc_P mr_k 3 w I R H → va_S (mc_A 3 w) s.heap H locs → lv_has ls 3 [(0, .ref (w.2.2.1 0)), (1, .int v1), (2, .int v2)] → W p l e ({ frames := 4, cells := 0, slots := 0, locals := 90 } : Room) s m args below meth c H locs 0 0 (MQ below (mc_Q none (mc_B mr_k 3 w Iz R) (mc_A 3 w)) args s 0 0 (mc_A 3 w)) (F0 m 13 ls [])) : ∀ (I : Nat → Nat → Int32) (v1 : Int32) (v2 : Int32), mi_X9_jerks_B13 k13 F I v1 v2 = some Iz → ∀ {H : Heap} {locs : List Loc} {ls : Array Slot}, mc_P mr_k 3 w I R H → va_S (mc_A 3 w) s.heap H locs → lv_has ls 3 [(0, .ref (w.2.2.1 0)), (1, .int v1), (2, .int v2)] → W p l e ({ frames := 4, cells := 0, slots := 0, locals := 90 } : Room) s m args below meth c H locs 0 0 (MQ below (mc_Q none (mc_B mr_k 3 w Iz R) (mc_A 3 w)) args s 0 0 (mc_A 3 w)) (F0 m 13 ls []) := by
  intro I v1 v2 h  H locs ls hP hS hl
  have hx := C.1
  have hb := C.2.1
  have hC := And.intro C.1 C.2.1
  unfold mi_X9_jerks_B13 at h
  refine lv_iload_n hx hb dX9_jerks_13 rfl (lv_at hl 2 rfl) ?_
  refine lv_if_lt (tgt := 53) hx hb dX9_jerks_14 (by decide) (fun c3 => ?_) (fun c3 => ?_)
  · replace h := mc_it h c3
    refine lv_iload_n hx hb dX9_jerks_53 rfl (lv_at hl 1 rfl) ?_
    refine lv_sipush (v := (-1005)) hx hb dX9_jerks_54 (by decide) ?_
    refine lv_icmp_eq (tgt := 79) hx hb dX9_jerks_57 (by decide) (fun c4 => ?_) (fun c4 => ?_)
    · replace h := mc_it h c4
      cases h
      exact mt_v hC hr hlk K hP hS dX9_jerks_79
    · replace h := mc_ie h c4
      refine lv_aload_n hx hb dX9_jerks_60 rfl (lv_at hl 0 rfl) ?_
      refine lv_iconst (v := 0) hx hb dX9_jerks_61 (by decide) ?_
      refine lv_iload_n hx hb dX9_jerks_62 rfl (lv_at hl 1 rfl) ?_
      obtain ⟨I5, e6, h⟩ := mc_ob_e h
      refine mg_Vv (As := [.int 0, .int v1]) (rest := []) (ct_X9_shuts l (w := w) (I := I) (R := R) e6) C K hP hS hl.1 kr_0 (by decide) rfl rfl ml_X9_57 wy_X9_shuts wd_X9_shuts rfl rfl rfl ⟨Nat.le_of_ble_eq_true rfl, Nat.le_of_ble_eq_true rfl⟩ (Nat.le_of_ble_eq_true rfl) ⟨Nat.zero_le _, Nat.zero_le _⟩ dX9_jerks_63 (fun H locs hP hS => ?_)
      refine lv_aload_n hx hb dX9_jerks_66 rfl (lv_at hl 0 rfl) ?_
      refine mf_X9_7 C K hP kr_0 dX9_jerks_67 ?_
      refine lv_iconst (v := 0) hx hb dX9_jerks_70 (by decide) ?_
      refine lv_iload_n hx hb dX9_jerks_71 rfl (lv_at hl 1 rfl) ?_
      refine mg_Si (As := [.int 0, .int v1]) (rest := [.ref (w.2.2.1 1)]) (ct_X9_bottleAt l (w := w) (I := I5) (R := R) rfl) C K hP hS hl.1 ml_X9_34 wy_X9_bottleAt wd_X9_bottleAt rfl rfl rfl ⟨Nat.le_of_ble_eq_true rfl, Nat.le_of_ble_eq_true rfl⟩ (Nat.le_of_ble_eq_true rfl) ⟨Nat.zero_le _, Nat.zero_le _⟩ dX9_jerks_72 (fun H locs hP hS => ?_)
      refine lv_iconst (v := 4) hx hb dX9_jerks_75 (by decide) ?_
      refine lv_iadd hx hb dX9_jerks_76 ?_
      refine lv_iconst (v := 1) hx hb dX9_jerks_77 (by decide) ?_
      obtain ⟨g8, h⟩ := mc_gd h
      obtain ⟨I9, eI9, h⟩ := mc_bn_e h
      refine ma_s16 hC K hP hS kr_1 g8 eI9 dX9_jerks_78 (fun H locs hP hS => ?_)
      cases h
      exact mt_v hC hr hlk K hP hS dX9_jerks_79
  · replace h := mc_ie h c3
    refine lv_aload_n hx hb dX9_jerks_17 rfl (lv_at hl 0 rfl) ?_
    refine lv_iconst (v := 0) hx hb dX9_jerks_18 (by decide) ?_
    refine lv_iload_n hx hb dX9_jerks_19 rfl (lv_at hl 2 rfl) ?_
    obtain ⟨r10, e11, h⟩ := mc_ob_e h
    refine mg_Vz (As := [.int 0, .int v2]) (rest := []) (ct_X9_isInWater l (w := w) (I := I) (R := R) e11) C K hP hS hl.1 kr_0 (by decide) rfl rfl ml_X9_38 wy_X9_isInWater wd_X9_isInWater rfl rfl rfl ⟨Nat.le_of_ble_eq_true rfl, Nat.le_of_ble_eq_true rfl⟩ (Nat.le_of_ble_eq_true rfl) ⟨Nat.zero_le _, Nat.zero_le _⟩ dX9_jerks_20 (fun H locs hP z12 hS => ?_)
    refine lv_if_eq (tgt := 45) hx hb dX9_jerks_23 (by decide) (fun c13 => ?_) (fun c13 => ?_)
    · replace h := mc_it h c13
      refine lv_iload_n hx hb dX9_jerks_45 rfl (lv_at hl 1 rfl) ?_
      refine lv_istore_n (i := 1) (lv' := [(1, .int v1), (0, .ref (w.2.2.1 0)), (2, .int v2)]) hx hb dX9_jerks_46 rfl hl (by decide) rfl (fun ls hl => ?_)
      obtain ⟨x14, ex14, h⟩ := mc_bn_e h
      refine lv_iinc (v := x14) (lv' := [(2, .int x14), (1, .int v1), (0, .ref (w.2.2.1 0))]) hx hb dX9_jerks_47 hl (k := 2) rfl (by rw [ex14]; rfl) (by decide) rfl (fun ls hl => ?_)
      refine lv_goto (tgt := 13) hx hb dX9_jerks_50 (by decide) ?_
      exact hk13 I v1 x14 h  hP hS (lv_sub hl [2, 1, 0] rfl)
    · replace h := mc_ie h c13
      refine lv_aload_n hx hb dX9_jerks_26 rfl (lv_at hl 0 rfl) ?_
      refine mf_X9_7 C K hP kr_0 dX9_jerks_27 ?_
      refine lv_iconst (v := 0) hx hb dX9_jerks_30 (by decide) ?_
      refine lv_iload_n hx hb dX9_jerks_31 rfl (lv_at hl 2 rfl) ?_
      refine mg_Si (As := [.int 0, .int v2]) (rest := [.ref (w.2.2.1 1)]) (ct_X9_bottleAt l (w := w) (I := I) (R := R) rfl) C K hP hS hl.1 ml_X9_34 wy_X9_bottleAt wd_X9_bottleAt rfl rfl rfl ⟨Nat.le_of_ble_eq_true rfl, Nat.le_of_ble_eq_true rfl⟩ (Nat.le_of_ble_eq_true rfl) ⟨Nat.zero_le _, Nat.zero_le _⟩ dX9_jerks_32 (fun H locs hP hS => ?_)
      refine lv_iconst (v := 1) hx hb dX9_jerks_35 (by decide) ?_
      refine lv_iadd hx hb dX9_jerks_36 ?_
      obtain ⟨g16, h⟩ := mc_gd h
      refine ma_l16 hC K hP kr_1 g16 dX9_jerks_37 ?_
      refine lv_if_ne (tgt := 45) hx hb dX9_jerks_38 (by decide) (fun c17 => ?_) (fun c17 => ?_)
      · replace h := mc_ie h c17
        refine lv_iload_n hx hb dX9_jerks_45 rfl (lv_at hl 1 rfl) ?_
        refine lv_istore_n (i := 1) (lv' := [(1, .int v1), (0, .ref (w.2.2.1 0)), (2, .int v2)]) hx hb dX9_jerks_46 rfl hl (by decide) rfl (fun ls hl => ?_)
        obtain ⟨x18, ex18, h⟩ := mc_bn_e h
        refine lv_iinc (v := x18) (lv' := [(2, .int x18), (1, .int v1), (0, .ref (w.2.2.1 0))]) hx hb dX9_jerks_47 hl (k := 2) rfl (by rw [ex18]; rfl) (by decide) rfl (fun ls hl => ?_)
        refine lv_goto (tgt := 13) hx hb dX9_jerks_50 (by decide) ?_
        exact hk13 I v1 x18 h  hP hS (lv_sub hl [2, 1, 0] rfl)
      · replace h := mc_it h c17
        refine lv_iload_n hx hb dX9_jerks_41 rfl (lv_at hl 2 rfl) ?_
        refine lv_goto (tgt := 46) hx hb dX9_jerks_42 (by decide) ?_
        refine lv_istore_n (i := 1) (lv' := [(1, .int v2), (0, .ref (w.2.2.1 0)), (2, .int v2)]) hx hb dX9_jerks_46 rfl hl (by decide) rfl (fun ls hl => ?_)
        obtain ⟨x19, ex19, h⟩ := mc_bn_e h
        refine lv_iinc (v := x19) (lv' := [(2, .int x19), (1, .int v2), (0, .ref (w.2.2.1 0))]) hx hb dX9_jerks_47 hl (k := 2) rfl (by rw [ex19]; rfl) (by decide) rfl (fun ls hl => ?_)
        refine lv_goto (tgt := 13) hx hb dX9_jerks_50 (by decide) ?_
        exact hk13 I v2 x19 h  hP hS (lv_sub hl [2, 1, 0] rfl)
theorem bk_X9_jerks_L13 {p : Program} {l : Launch} {e : Env} {s : State} {m : MethodId} {args : Array Value} {below : List Frame} {meth : Method} {c : Code} (C : CallFix p m c cX9_jerks 3 s args mc_big RX9) (hr : meth.sig.returnType = none) (hlk : meth.locks = false) {w : mc_w} (K : mc_K mr_k 3 w s) {R : Nat → Nat → Option Nat} {F : Nat} {Iz : Nat → Nat → Int32} : ∀ n : Nat, ∀ (I : Nat → Nat → Int32) (v1 : Int32) (v2 : Int32), mi_X9_jerks_L13 F n I v1 v2 = some Iz → ∀ {H : Heap} {locs : List Loc} {ls : Array Slot}, mc_P mr_k 3 w I R H → va_S (mc_A 3 w) s.heap H locs → lv_has ls 3 [(0, .ref (w.2.2.1 0)), (1, .int v1), (2, .int v2)] → W p l e ({ frames := 4, cells := 0, slots := 0, locals := 90 } : Room) s m args below meth c H locs 0 0 (MQ below (mc_Q none (mc_B mr_k 3 w Iz R) (mc_A 3 w)) args s 0 0 (mc_A 3 w)) (F0 m 13 ls []) := by
  intro n
  induction n with
  | zero =>
    intro I v1 v2 h
    cases h
  | succ n ih =>
    intro I v1 v2 h
    exact bk_X9_jerks_B13 C hr hlk K  ih I v1 v2 h
set_option maxHeartbeats 4000000 in
set_option maxRecDepth 100000 in
theorem ct_X9_jerks (l : Launch) {w : mc_w} {I : Nat → Nat → Int32} {R : Nat → Nat → Option Nat} {F : Nat} {Iz : Nat → Nat → Int32} (h : mi_X9_jerks F I = some Iz) : Met l yX9_jerks (Cond.code yX9_jerks cX9_jerks 3 none :: mc_big) ({ frames := 4, cells := 0, slots := 0, locals := 90 } : Room) (va_Pc [.ref (w.2.2.1 0)] (mc_B mr_k 3 w I R)) (mc_Q none (mc_B mr_k 3 w Iz R) (mc_A 3 w)) 0 0 (mc_A 3 w) := by
  refine Met.ofW (cc := cX9_jerks) (maxL := 3) (ret := none) (by decide) rfl ?_
  intro p e s m args below meth c s₁ B hml hv
  obtain ⟨rfl, hP, K⟩ := hv
  have hown : s.vm.findClass RX9 = some m.cls := findClass_of_methodNamed B.named
  have C : CallFix p m c cX9_jerks 3 s _ mc_big RX9 := ⟨B.exec, B.bytes, hml, hown, fun w hw => atoms_spec B.pre w (List.mem_cons_of_mem _ hw)⟩
  have hx := C.1
  have hb := C.2.1
  have hC := And.intro C.1 C.2.1
  have hr := B.returns
  have hlk := B.notSynchronized
  have hS : va_S (mc_A 3 w) s.heap s.heap [] := va_S.rf
  have hl := lv_entry ([.ref (w.2.2.1 0)]) (n := 3) (Nat.le_of_ble_eq_true rfl)
  rw [lg_entry_eq]
  generalize (lg_sl ([.ref (w.2.2.1 0)]) ++ List.replicate (3 - (lg_sl ([.ref (w.2.2.1 0)])).length) Slot.unset).toArray = ls at hl ⊢
  have hl : lv_has ls 3 [(0, .ref (w.2.2.1 0))] := hl
  unfold mi_X9_jerks at h
  refine lv_sipush (v := (-1005)) hx hb dX9_jerks_0 (by decide) ?_
  refine lv_istore_n (i := 1) (lv' := [(1, .int (-1005)), (0, .ref (w.2.2.1 0))]) hx hb dX9_jerks_3 rfl hl (by decide) rfl (fun ls hl => ?_)
  refine lv_aload_n hx hb dX9_jerks_4 rfl (lv_at hl 1 rfl) ?_
  refine mf_X9_7 C K hP kr_0 dX9_jerks_5 ?_
  refine lv_iconst (v := 4) hx hb dX9_jerks_8 (by decide) ?_
  obtain ⟨g1, h⟩ := mc_gd h
  refine ma_l16 hC K hP kr_1 g1 dX9_jerks_9 ?_
  refine lv_iconst (v := 1) hx hb dX9_jerks_10 (by decide) ?_
  refine lv_isub hx hb dX9_jerks_11 ?_
  obtain ⟨x2, ex2, h⟩ := mc_bn_e h
  refine mv_top ex2 ?_
  refine lv_istore_n (i := 2) (lv' := [(2, .int x2), (1, .int (-1005)), (0, .ref (w.2.2.1 0))]) hx hb dX9_jerks_12 rfl hl (by decide) rfl (fun ls hl => ?_)
  exact bk_X9_jerks_L13 C hr hlk K  F I (-1005) x2 h  hP hS (lv_sub hl [2, 1, 0] rfl)
set_option maxHeartbeats 4000000 in
set_option maxRecDepth 100000 in
theorem bk_X9_pays_J117 {p : Program} {l : Launch} {e : Env} {s : State} {m : MethodId} {args : Array Value} {below : List Frame} {meth : Method} {c : Code} (C : CallFix p m c cX9_pays 3 s args mc_big RX9) (hr : meth.sig.returnType = (some .int)) (hlk : meth.locks = false) {w : mc_w} (K : mc_K mr_k 3 w s) {R : Nat → Nat → Option Nat} {F : Nat} {Iz : Nat → Nat → Int32} {rz : Int32} : ∀ (I : Nat → Nat → Int32) (v1 : Int32) (v2 : Int32), mi_X9_pays_J117 F I v1 v2 = some (Iz, rz) → ∀ {H : Heap} {locs : List Loc} {ls : Array Slot}, mc_P mr_k 3 w I R H → va_S (mc_A 3 w) s.heap H locs → lv_has ls 3 [(0, .ref (w.2.2.1 0)), (1, .int v1), (2, .int v2)] → W p l e ({ frames := 5, cells := 0, slots := 0, locals := 112 } : Room) s m args below meth c H locs 0 0 (MQ below (mc_Q (some (.int rz)) (mc_B mr_k 3 w Iz R) (mc_A 3 w)) args s 0 0 (mc_A 3 w)) (F0 m 117 ls []) := by
  intro I v1 v2 h  H locs ls hP hS hl
  have hx := C.1
  have hb := C.2.1
  have hC := And.intro C.1 C.2.1
  unfold mi_X9_pays_J117 at h
  refine lv_aload_n hx hb dX9_pays_117 rfl (lv_at hl 0 rfl) ?_
  refine mf_X9_7 C K hP kr_0 dX9_pays_118 ?_
  refine lv_bipush (v := 10) hx hb dX9_pays_121 (by decide) ?_
  refine lv_dup2_11 hx hb dX9_pays_123 rfl rfl ?_
  obtain ⟨g14, h⟩ := mc_gd h
  refine ma_l16 hC K hP kr_1 g14 dX9_pays_124 ?_
  refine lv_iload_n hx hb dX9_pays_125 rfl (lv_at hl 2 rfl) ?_
  refine lv_iadd hx hb dX9_pays_126 ?_
  obtain ⟨g15, h⟩ := mc_gd h
  obtain ⟨I16, eI16, h⟩ := mc_bn_e h
  refine ma_s16 hC K hP hS kr_1 g15 eI16 dX9_pays_127 (fun H locs hP hS => ?_)
  refine lv_iload_n hx hb dX9_pays_128 rfl (lv_at hl 1 rfl) ?_
  refine mg_Si (As := [.int v1]) (rest := []) (ct_X9_size l (w := w) (I := I16) (R := R) rfl) C K hP hS hl.1 ml_X9_85 wy_X9_size wd_X9_size rfl rfl rfl ⟨Nat.le_of_ble_eq_true rfl, Nat.le_of_ble_eq_true rfl⟩ (Nat.le_of_ble_eq_true rfl) ⟨Nat.zero_le _, Nat.zero_le _⟩ dX9_pays_129 (fun H locs hP hS => ?_)
  refine lv_aload_n hx hb dX9_pays_132 rfl (lv_at hl 0 rfl) ?_
  refine mf_X9_7 C K hP kr_0 dX9_pays_133 ?_
  refine lv_bipush (v := 12) hx hb dX9_pays_136 (by decide) ?_
  obtain ⟨g18, h⟩ := mc_gd h
  refine ma_l16 hC K hP kr_1 g18 dX9_pays_138 ?_
  refine lv_icmp_le (tgt := 146) hx hb dX9_pays_139 (by decide) (fun c19 => ?_) (fun c19 => ?_)
  · replace h := mc_it h c19
    refine lv_iload_n hx hb dX9_pays_146 rfl (lv_at hl 2 rfl) ?_
    cases h
    exact mt_i hC hr hlk K hP hS dX9_pays_147
  · replace h := mc_ie h c19
    refine lv_aload_n hx hb dX9_pays_142 rfl (lv_at hl 0 rfl) ?_
    obtain ⟨I20, e21, h⟩ := mc_ob_e h
    refine mg_Vv (As := []) (rest := []) (ct_X9_jerks l (w := w) (I := I16) (R := R) e21) C K hP hS hl.1 kr_0 (by decide) rfl rfl ml_X9_88 wy_X9_jerks wd_X9_jerks rfl rfl rfl ⟨Nat.le_of_ble_eq_true rfl, Nat.le_of_ble_eq_true rfl⟩ (Nat.le_of_ble_eq_true rfl) ⟨Nat.zero_le _, Nat.zero_le _⟩ dX9_pays_143 (fun H locs hP hS => ?_)
    refine lv_iload_n hx hb dX9_pays_146 rfl (lv_at hl 2 rfl) ?_
    cases h
    exact mt_i hC hr hlk K hP hS dX9_pays_147
set_option maxHeartbeats 4000000 in
set_option maxRecDepth 100000 in
theorem bk_X9_pays_B66 {p : Program} {l : Launch} {e : Env} {s : State} {m : MethodId} {args : Array Value} {below : List Frame} {meth : Method} {c : Code} (C : CallFix p m c cX9_pays 3 s args mc_big RX9) (hr : meth.sig.returnType = (some .int)) (hlk : meth.locks = false) {w : mc_w} (K : mc_K mr_k 3 w s) {R : Nat → Nat → Option Nat} {F : Nat} {Iz : Nat → Nat → Int32} {rz : Int32} {k66 : (Nat → Nat → Int32) → Int32 → Int32 → (Option ((Nat → Nat → Int32) × Int32))} (hk66 : ∀ (I : Nat → Nat → Int32) (v1 : Int32) (v2 : Int32), k66 I v1 v2 = some (Iz, rz) → ∀ {H : Heap} {locs : List Loc} {ls : Array Slot}, mc_P mr_k 3 w I R H → va_S (mc_A 3 w) s.heap H locs → lv_has ls 3 [(0, .ref (w.2.2.1 0)), (1, .int v1), (2, .int v2)] → W p l e ({ frames := 5, cells := 0, slots := 0, locals := 112 } : Room) s m args below meth c H locs 0 0 (MQ below (mc_Q (some (.int rz)) (mc_B mr_k 3 w Iz R) (mc_A 3 w)) args s 0 0 (mc_A 3 w)) (F0 m 66 ls [])) : ∀ (I : Nat → Nat → Int32) (v1 : Int32) (v2 : Int32), mi_X9_pays_B66 k66 F I v1 v2 = some (Iz, rz) → ∀ {H : Heap} {locs : List Loc} {ls : Array Slot}, mc_P mr_k 3 w I R H → va_S (mc_A 3 w) s.heap H locs → lv_has ls 3 [(0, .ref (w.2.2.1 0)), (1, .int v1), (2, .int v2)] → W p l e ({ frames := 5, cells := 0, slots := 0, locals := 112 } : Room) s m args below meth c H locs 0 0 (MQ below (mc_Q (some (.int rz)) (mc_B mr_k 3 w Iz R) (mc_A 3 w)) args s 0 0 (mc_A 3 w)) (F0 m 66 ls []) := by
  intro I v1 v2 h  H locs ls hP hS hl
  have hx := C.1
  have hb := C.2.1
  have hC := And.intro C.1 C.2.1
  unfold mi_X9_pays_B66 at h
  refine lv_aload_n hx hb dX9_pays_66 rfl (lv_at hl 0 rfl) ?_
  refine mf_X9_7 C K hP kr_0 dX9_pays_67 ?_
  refine lv_iconst (v := 5) hx hb dX9_pays_70 (by decide) ?_
  obtain ⟨g12, h⟩ := mc_gd h
  refine ma_l16 hC K hP kr_1 g12 dX9_pays_71 ?_
  refine lv_if_le (tgt := 117) hx hb dX9_pays_72 (by decide) (fun c13 => ?_) (fun c13 => ?_)
  · replace h := mc_it h c13
    exact bk_X9_pays_J117 C hr hlk K  I v1 v2 h  hP hS (lv_sub hl [0, 1, 2] rfl)
  · replace h := mc_ie h c13
    refine lv_aload_n hx hb dX9_pays_75 rfl (lv_at hl 0 rfl) ?_
    refine mf_X9_7 C K hP kr_0 dX9_pays_76 ?_
    refine lv_iconst (v := 0) hx hb dX9_pays_79 (by decide) ?_
    refine lv_aload_n hx hb dX9_pays_80 rfl (lv_at hl 0 rfl) ?_
    refine mf_X9_7 C K hP kr_0 dX9_pays_81 ?_
    refine lv_iconst (v := 5) hx hb dX9_pays_84 (by decide) ?_
    obtain ⟨g22, h⟩ := mc_gd h
    refine ma_l16 hC K hP kr_1 g22 dX9_pays_85 ?_
    refine lv_iconst (v := 1) hx hb dX9_pays_86 (by decide) ?_
    refine lv_isub hx hb dX9_pays_87 ?_
    refine mg_Si (As := [.int 0, .int ((I 1 (5 : Int32).toNatClampNeg) - 1)]) (rest := [.ref (w.2.2.1 1)]) (ct_X9_messengerAt l (w := w) (I := I) (R := R) rfl) C K hP hS hl.1 ml_X9_54 wy_X9_messengerAt wd_X9_messengerAt rfl rfl rfl ⟨Nat.le_of_ble_eq_true rfl, Nat.le_of_ble_eq_true rfl⟩ (Nat.le_of_ble_eq_true rfl) ⟨Nat.zero_le _, Nat.zero_le _⟩ dX9_pays_88 (fun H locs hP hS => ?_)
    obtain ⟨g24, h⟩ := mc_gd h
    refine ma_l16 hC K hP kr_1 g24 dX9_pays_91 ?_
    refine lv_aload_n hx hb dX9_pays_92 rfl (lv_at hl 0 rfl) ?_
    refine mf_X9_7 C K hP kr_0 dX9_pays_93 ?_
    refine lv_iconst (v := 1) hx hb dX9_pays_96 (by decide) ?_
    obtain ⟨g25, h⟩ := mc_gd h
    refine ma_l16 hC K hP kr_1 g25 dX9_pays_97 ?_
    refine lv_icmp_le (tgt := 117) hx hb dX9_pays_98 (by decide) (fun c26 => ?_) (fun c26 => ?_)
    · replace h := mc_it h c26
      exact bk_X9_pays_J117 C hr hlk K  I v1 v2 h  hP hS (lv_sub hl [0, 1, 2] rfl)
    · replace h := mc_ie h c26
      refine lv_aload_n hx hb dX9_pays_101 rfl (lv_at hl 0 rfl) ?_
      refine mf_X9_7 C K hP kr_0 dX9_pays_102 ?_
      refine lv_iconst (v := 5) hx hb dX9_pays_105 (by decide) ?_
      refine lv_dup2_11 hx hb dX9_pays_106 rfl rfl ?_
      obtain ⟨g27, h⟩ := mc_gd h
      refine ma_l16 hC K hP kr_1 g27 dX9_pays_107 ?_
      refine lv_iconst (v := 1) hx hb dX9_pays_108 (by decide) ?_
      refine lv_isub hx hb dX9_pays_109 ?_
      obtain ⟨g28, h⟩ := mc_gd h
      obtain ⟨I29, eI29, h⟩ := mc_bn_e h
      refine ma_s16 hC K hP hS kr_1 g28 eI29 dX9_pays_110 (fun H locs hP hS => ?_)
      obtain ⟨x30, ex30, h⟩ := mc_bn_e h
      refine lv_iinc (v := x30) (lv' := [(2, .int x30), (0, .ref (w.2.2.1 0)), (1, .int v1)]) hx hb dX9_pays_111 hl (k := 2) rfl (by rw [ex30]; rfl) (by decide) rfl (fun ls hl => ?_)
      refine lv_goto (tgt := 66) hx hb dX9_pays_114 (by decide) ?_
      exact hk66 I29 v1 x30 h  hP hS (lv_sub hl [1, 2, 0] rfl)
theorem bk_X9_pays_L66 {p : Program} {l : Launch} {e : Env} {s : State} {m : MethodId} {args : Array Value} {below : List Frame} {meth : Method} {c : Code} (C : CallFix p m c cX9_pays 3 s args mc_big RX9) (hr : meth.sig.returnType = (some .int)) (hlk : meth.locks = false) {w : mc_w} (K : mc_K mr_k 3 w s) {R : Nat → Nat → Option Nat} {F : Nat} {Iz : Nat → Nat → Int32} {rz : Int32} : ∀ n : Nat, ∀ (I : Nat → Nat → Int32) (v1 : Int32) (v2 : Int32), mi_X9_pays_L66 F n I v1 v2 = some (Iz, rz) → ∀ {H : Heap} {locs : List Loc} {ls : Array Slot}, mc_P mr_k 3 w I R H → va_S (mc_A 3 w) s.heap H locs → lv_has ls 3 [(0, .ref (w.2.2.1 0)), (1, .int v1), (2, .int v2)] → W p l e ({ frames := 5, cells := 0, slots := 0, locals := 112 } : Room) s m args below meth c H locs 0 0 (MQ below (mc_Q (some (.int rz)) (mc_B mr_k 3 w Iz R) (mc_A 3 w)) args s 0 0 (mc_A 3 w)) (F0 m 66 ls []) := by
  intro n
  induction n with
  | zero =>
    intro I v1 v2 h
    cases h
  | succ n ih =>
    intro I v1 v2 h
    exact bk_X9_pays_B66 C hr hlk K  ih I v1 v2 h
set_option maxHeartbeats 4000000 in
set_option maxRecDepth 100000 in
theorem ct_X9_pays (l : Launch) {w : mc_w} {I : Nat → Nat → Int32} {R : Nat → Nat → Option Nat} {F : Nat} {v1 : Int32} {Iz : Nat → Nat → Int32} {rz : Int32} (h : mi_X9_pays F I v1 = some (Iz, rz)) : Met l yX9_pays (Cond.code yX9_pays cX9_pays 3 (some .int) :: mc_big) ({ frames := 5, cells := 0, slots := 0, locals := 112 } : Room) (va_Pc [.ref (w.2.2.1 0), .int v1] (mc_B mr_k 3 w I R)) (mc_Q (some (.int rz)) (mc_B mr_k 3 w Iz R) (mc_A 3 w)) 0 0 (mc_A 3 w) := by
  refine Met.ofW (cc := cX9_pays) (maxL := 3) (ret := (some .int)) (by decide) rfl ?_
  intro p e s m args below meth c s₁ B hml hv
  obtain ⟨rfl, hP, K⟩ := hv
  have hown : s.vm.findClass RX9 = some m.cls := findClass_of_methodNamed B.named
  have C : CallFix p m c cX9_pays 3 s _ mc_big RX9 := ⟨B.exec, B.bytes, hml, hown, fun w hw => atoms_spec B.pre w (List.mem_cons_of_mem _ hw)⟩
  have hx := C.1
  have hb := C.2.1
  have hC := And.intro C.1 C.2.1
  have hr := B.returns
  have hlk := B.notSynchronized
  have hS : va_S (mc_A 3 w) s.heap s.heap [] := va_S.rf
  have hl := lv_entry ([.ref (w.2.2.1 0), .int v1]) (n := 3) (Nat.le_of_ble_eq_true rfl)
  rw [lg_entry_eq]
  generalize (lg_sl ([.ref (w.2.2.1 0), .int v1]) ++ List.replicate (3 - (lg_sl ([.ref (w.2.2.1 0), .int v1])).length) Slot.unset).toArray = ls at hl ⊢
  have hl : lv_has ls 3 [(0, .ref (w.2.2.1 0)), (1, .int v1)] := hl
  unfold mi_X9_pays at h
  refine lv_iload_n hx hb dX9_pays_0 rfl (lv_at hl 1 rfl) ?_
  refine lv_if_eq (tgt := 17) hx hb dX9_pays_1 (by decide) (fun c1 => ?_) (fun c1 => ?_)
  · replace h := mc_it h c1
    refine lv_sipush (v := (-1002)) hx hb dX9_pays_17 (by decide) ?_
    cases h
    exact mt_i hC hr hlk K hP hS dX9_pays_20
  · replace h := mc_ie h c1
    refine lv_iload_n hx hb dX9_pays_4 rfl (lv_at hl 1 rfl) ?_
    refine lv_sipush (v := (-999)) hx hb dX9_pays_5 (by decide) ?_
    refine lv_sipush (v := 999) hx hb dX9_pays_8 (by decide) ?_
    refine mg_Sz (As := [.int v1, .int (-999), .int 999]) (rest := []) (ct_X9_in l (w := w) (I := I) (R := R) rfl) C K hP hS hl.1 ml_X9_81 wy_X9_in wd_X9_in rfl rfl rfl ⟨Nat.le_of_ble_eq_true rfl, Nat.le_of_ble_eq_true rfl⟩ (Nat.le_of_ble_eq_true rfl) ⟨Nat.zero_le _, Nat.zero_le _⟩ dX9_pays_11 (fun H locs hP z3 hS => ?_)
    refine lv_if_ne (tgt := 21) hx hb dX9_pays_14 (by decide) (fun c4 => ?_) (fun c4 => ?_)
    · replace h := mc_ie h c4
      refine lv_aload_n hx hb dX9_pays_21 rfl (lv_at hl 0 rfl) ?_
      refine mf_X9_7 C K hP kr_0 dX9_pays_22 ?_
      refine lv_iconst (v := 1) hx hb dX9_pays_25 (by decide) ?_
      obtain ⟨g5, h⟩ := mc_gd h
      refine ma_l16 hC K hP kr_1 g5 dX9_pays_26 ?_
      refine lv_iload_n hx hb dX9_pays_27 rfl (lv_at hl 1 rfl) ?_
      refine lv_iadd hx hb dX9_pays_28 ?_
      refine lv_if_ge (tgt := 36) hx hb dX9_pays_29 (by decide) (fun c6 => ?_) (fun c6 => ?_)
      · replace h := mc_it h c6
        refine lv_aload_n hx hb dX9_pays_36 rfl (lv_at hl 0 rfl) ?_
        refine mf_X9_7 C K hP kr_0 dX9_pays_37 ?_
        refine lv_iconst (v := 1) hx hb dX9_pays_40 (by decide) ?_
        obtain ⟨g7, h⟩ := mc_gd h
        refine ma_l16 hC K hP kr_1 g7 dX9_pays_41 ?_
        refine lv_iload_n hx hb dX9_pays_42 rfl (lv_at hl 1 rfl) ?_
        refine lv_iadd hx hb dX9_pays_43 ?_
        refine lv_sipush (v := 999) hx hb dX9_pays_44 (by decide) ?_
        refine lv_icmp_le (tgt := 54) hx hb dX9_pays_47 (by decide) (fun c8 => ?_) (fun c8 => ?_)
        · replace h := mc_it h c8
          refine lv_aload_n hx hb dX9_pays_54 rfl (lv_at hl 0 rfl) ?_
          refine mf_X9_7 C K hP kr_0 dX9_pays_55 ?_
          refine lv_iconst (v := 1) hx hb dX9_pays_58 (by decide) ?_
          refine lv_dup2_11 hx hb dX9_pays_59 rfl rfl ?_
          obtain ⟨g9, h⟩ := mc_gd h
          refine ma_l16 hC K hP kr_1 g9 dX9_pays_60 ?_
          refine lv_iload_n hx hb dX9_pays_61 rfl (lv_at hl 1 rfl) ?_
          refine lv_iadd hx hb dX9_pays_62 ?_
          obtain ⟨g10, h⟩ := mc_gd h
          obtain ⟨I11, eI11, h⟩ := mc_bn_e h
          refine ma_s16 hC K hP hS kr_1 g10 eI11 dX9_pays_63 (fun H locs hP hS => ?_)
          refine lv_iconst (v := 0) hx hb dX9_pays_64 (by decide) ?_
          refine lv_istore_n (i := 2) (lv' := [(2, .int 0), (0, .ref (w.2.2.1 0)), (1, .int v1)]) hx hb dX9_pays_65 rfl hl (by decide) rfl (fun ls hl => ?_)
          exact bk_X9_pays_L66 C hr hlk K  F I11 v1 0 h  hP hS (lv_sub hl [1, 2, 0] rfl)
        · replace h := mc_ie h c8
          refine lv_sipush (v := (-1003)) hx hb dX9_pays_50 (by decide) ?_
          cases h
          exact mt_i hC hr hlk K hP hS dX9_pays_53
      · replace h := mc_ie h c6
        refine lv_sipush (v := (-1004)) hx hb dX9_pays_32 (by decide) ?_
        cases h
        exact mt_i hC hr hlk K hP hS dX9_pays_35
    · replace h := mc_it h c4
      refine lv_sipush (v := (-1002)) hx hb dX9_pays_17 (by decide) ?_
      cases h
      exact mt_i hC hr hlk K hP hS dX9_pays_20
set_option maxHeartbeats 4000000 in
set_option maxRecDepth 100000 in
theorem ct_X9_slopes (l : Launch) {w : mc_w} {I : Nat → Nat → Int32} {R : Nat → Nat → Option Nat} {v1 : Int32} {Iz : Nat → Nat → Int32} {rz : Int32} (h : mi_X9_slopes I v1 = some (Iz, rz)) : Met l yX9_slopes (Cond.code yX9_slopes cX9_slopes 3 (some .int) :: mc_big) ({ frames := 1, cells := 0, slots := 0, locals := 22 } : Room) (va_Pc [.ref (w.2.2.1 0), .int v1] (mc_B mr_k 3 w I R)) (mc_Q (some (.int rz)) (mc_B mr_k 3 w Iz R) (mc_A 3 w)) 0 0 (mc_A 3 w) := by
  refine Met.ofW (cc := cX9_slopes) (maxL := 3) (ret := (some .int)) (by decide) rfl ?_
  intro p e s m args below meth c s₁ B hml hv
  obtain ⟨rfl, hP, K⟩ := hv
  have hown : s.vm.findClass RX9 = some m.cls := findClass_of_methodNamed B.named
  have C : CallFix p m c cX9_slopes 3 s _ mc_big RX9 := ⟨B.exec, B.bytes, hml, hown, fun w hw => atoms_spec B.pre w (List.mem_cons_of_mem _ hw)⟩
  have hx := C.1
  have hb := C.2.1
  have hC := And.intro C.1 C.2.1
  have hr := B.returns
  have hlk := B.notSynchronized
  have hS : va_S (mc_A 3 w) s.heap s.heap [] := va_S.rf
  have hl := lv_entry ([.ref (w.2.2.1 0), .int v1]) (n := 3) (Nat.le_of_ble_eq_true rfl)
  rw [lg_entry_eq]
  generalize (lg_sl ([.ref (w.2.2.1 0), .int v1]) ++ List.replicate (3 - (lg_sl ([.ref (w.2.2.1 0), .int v1])).length) Slot.unset).toArray = ls at hl ⊢
  have hl : lv_has ls 3 [(0, .ref (w.2.2.1 0)), (1, .int v1)] := hl
  unfold mi_X9_slopes at h
  refine lv_iload_n hx hb dX9_slopes_0 rfl (lv_at hl 1 rfl) ?_
  refine lv_iconst (v := 0) hx hb dX9_slopes_1 (by decide) ?_
  refine lv_bipush (v := 6) hx hb dX9_slopes_2 (by decide) ?_
  refine mg_Sz (As := [.int v1, .int 0, .int 6]) (rest := []) (ct_X9_in l (w := w) (I := I) (R := R) rfl) C K hP hS hl.1 ml_X9_81 wy_X9_in wd_X9_in rfl rfl rfl ⟨Nat.le_of_ble_eq_true rfl, Nat.le_of_ble_eq_true rfl⟩ (Nat.le_of_ble_eq_true rfl) ⟨Nat.zero_le _, Nat.zero_le _⟩ dX9_slopes_4 (fun H locs hP z2 hS => ?_)
  refine lv_if_ne (tgt := 14) hx hb dX9_slopes_7 (by decide) (fun c3 => ?_) (fun c3 => ?_)
  · replace h := mc_ie h c3
    refine lv_aload_n hx hb dX9_slopes_14 rfl (lv_at hl 0 rfl) ?_
    refine mf_X9_7 C K hP kr_0 dX9_slopes_15 ?_
    refine lv_iconst (v := 2) hx hb dX9_slopes_18 (by decide) ?_
    obtain ⟨g4, h⟩ := mc_gd h
    refine ma_l16 hC K hP kr_1 g4 dX9_slopes_19 ?_
    obtain ⟨x5, ex5, h⟩ := mc_bn_e h
    refine mv_top ex5 ?_
    refine lv_istore_n (i := 2) (lv' := [(2, .int x5), (0, .ref (w.2.2.1 0)), (1, .int v1)]) hx hb dX9_slopes_20 rfl hl (by decide) rfl (fun ls hl => ?_)
    refine lv_aload_n hx hb dX9_slopes_21 rfl (lv_at hl 1 rfl) ?_
    refine mf_X9_7 C K hP kr_0 dX9_slopes_22 ?_
    refine lv_iconst (v := 2) hx hb dX9_slopes_25 (by decide) ?_
    refine lv_iload_n hx hb dX9_slopes_26 rfl (lv_at hl 2 rfl) ?_
    obtain ⟨g6, h⟩ := mc_gd h
    obtain ⟨I7, eI7, h⟩ := mc_bn_e h
    refine ma_s16 hC K hP hS kr_1 g6 eI7 dX9_slopes_27 (fun H locs hP hS => ?_)
    refine lv_iload_n hx hb dX9_slopes_28 rfl (lv_at hl 0 rfl) ?_
    refine lv_iload_n hx hb dX9_slopes_29 rfl (lv_at hl 2 rfl) ?_
    refine lv_icmp_ne (tgt := 39) hx hb dX9_slopes_30 (by decide) (fun c8 => ?_) (fun c8 => ?_)
    · replace h := mc_ie h c8
      refine lv_iload_n hx hb dX9_slopes_39 rfl (lv_at hl 0 rfl) ?_
      cases h
      exact mt_i hC hr hlk K hP hS dX9_slopes_40
    · replace h := mc_it h c8
      refine lv_sipush (v := (-1005)) hx hb dX9_slopes_33 (by decide) ?_
      refine lv_goto (tgt := 40) hx hb dX9_slopes_36 (by decide) ?_
      cases h
      exact mt_i hC hr hlk K hP hS dX9_slopes_40
  · replace h := mc_it h c3
    refine lv_sipush (v := (-1002)) hx hb dX9_slopes_10 (by decide) ?_
    cases h
    exact mt_i hC hr hlk K hP hS dX9_slopes_13
set_option maxHeartbeats 4000000 in
set_option maxRecDepth 100000 in
theorem bk_X9_weighs_J27 {p : Program} {l : Launch} {e : Env} {s : State} {m : MethodId} {args : Array Value} {below : List Frame} {meth : Method} {c : Code} (C : CallFix p m c cX9_weighs 3 s args mc_big RX9) (hr : meth.sig.returnType = (some .int)) (hlk : meth.locks = false) {w : mc_w} (K : mc_K mr_k 3 w s) {R : Nat → Nat → Option Nat} {Iz : Nat → Nat → Int32} {rz : Int32} : ∀ (I : Nat → Nat → Int32) (v1 : Int32), mi_X9_weighs_J27 I v1 = some (Iz, rz) → ∀ {H : Heap} {locs : List Loc} {ls : Array Slot}, mc_P mr_k 3 w I R H → va_S (mc_A 3 w) s.heap H locs → lv_has ls 3 [(0, .ref (w.2.2.1 0)), (1, .int v1)] → W p l e ({ frames := 1, cells := 0, slots := 0, locals := 22 } : Room) s m args below meth c H locs 0 0 (MQ below (mc_Q (some (.int rz)) (mc_B mr_k 3 w Iz R) (mc_A 3 w)) args s 0 0 (mc_A 3 w)) (F0 m 27 ls []) := by
  intro I v1 h  H locs ls hP hS hl
  have hx := C.1
  have hb := C.2.1
  have hC := And.intro C.1 C.2.1
  unfold mi_X9_weighs_J27 at h
  refine lv_aload_n hx hb dX9_weighs_27 rfl (lv_at hl 0 rfl) ?_
  refine mf_X9_7 C K hP kr_0 dX9_weighs_28 ?_
  refine lv_iconst (v := 3) hx hb dX9_weighs_31 (by decide) ?_
  obtain ⟨g2, h⟩ := mc_gd h
  refine ma_l16 hC K hP kr_1 g2 dX9_weighs_32 ?_
  obtain ⟨x3, ex3, h⟩ := mc_bn_e h
  refine mv_top ex3 ?_
  refine lv_istore_n (i := 2) (lv' := [(2, .int x3), (0, .ref (w.2.2.1 0)), (1, .int v1)]) hx hb dX9_weighs_33 rfl hl (by decide) rfl (fun ls hl => ?_)
  refine lv_aload_n hx hb dX9_weighs_34 rfl (lv_at hl 1 rfl) ?_
  refine mf_X9_7 C K hP kr_0 dX9_weighs_35 ?_
  refine lv_iconst (v := 3) hx hb dX9_weighs_38 (by decide) ?_
  refine lv_iload_n hx hb dX9_weighs_39 rfl (lv_at hl 2 rfl) ?_
  obtain ⟨g4, h⟩ := mc_gd h
  obtain ⟨I5, eI5, h⟩ := mc_bn_e h
  refine ma_s16 hC K hP hS kr_1 g4 eI5 dX9_weighs_40 (fun H locs hP hS => ?_)
  refine lv_iload_n hx hb dX9_weighs_41 rfl (lv_at hl 0 rfl) ?_
  refine lv_iload_n hx hb dX9_weighs_42 rfl (lv_at hl 2 rfl) ?_
  refine lv_icmp_ne (tgt := 52) hx hb dX9_weighs_43 (by decide) (fun c6 => ?_) (fun c6 => ?_)
  · replace h := mc_ie h c6
    refine lv_aload_n hx hb dX9_weighs_52 rfl (lv_at hl 1 rfl) ?_
    refine lv_iconst (v := 0) hx hb dX9_weighs_53 (by decide) ?_
    obtain ⟨r7, e8, h⟩ := mc_ob_e h
    refine mg_Vi (As := [.int 0]) (rest := []) (ct_X9_counted l (w := w) (I := I5) (R := R) e8) C K hP hS hl.1 kr_0 (by decide) rfl rfl ml_X9_45 wy_X9_counted wd_X9_counted rfl rfl rfl ⟨Nat.le_of_ble_eq_true rfl, Nat.le_of_ble_eq_true rfl⟩ (Nat.le_of_ble_eq_true rfl) ⟨Nat.zero_le _, Nat.zero_le _⟩ dX9_weighs_54 (fun H locs hP hS => ?_)
    cases h
    exact mt_i hC hr hlk K hP hS dX9_weighs_57
  · replace h := mc_it h c6
    refine lv_sipush (v := (-1005)) hx hb dX9_weighs_46 (by decide) ?_
    refine lv_goto (tgt := 57) hx hb dX9_weighs_49 (by decide) ?_
    cases h
    exact mt_i hC hr hlk K hP hS dX9_weighs_57
set_option maxHeartbeats 4000000 in
set_option maxRecDepth 100000 in
theorem ct_X9_weighs (l : Launch) {w : mc_w} {I : Nat → Nat → Int32} {R : Nat → Nat → Option Nat} {v1 : Int32} {Iz : Nat → Nat → Int32} {rz : Int32} (h : mi_X9_weighs I v1 = some (Iz, rz)) : Met l yX9_weighs (Cond.code yX9_weighs cX9_weighs 3 (some .int) :: mc_big) ({ frames := 1, cells := 0, slots := 0, locals := 22 } : Room) (va_Pc [.ref (w.2.2.1 0), .int v1] (mc_B mr_k 3 w I R)) (mc_Q (some (.int rz)) (mc_B mr_k 3 w Iz R) (mc_A 3 w)) 0 0 (mc_A 3 w) := by
  refine Met.ofW (cc := cX9_weighs) (maxL := 3) (ret := (some .int)) (by decide) rfl ?_
  intro p e s m args below meth c s₁ B hml hv
  obtain ⟨rfl, hP, K⟩ := hv
  have hown : s.vm.findClass RX9 = some m.cls := findClass_of_methodNamed B.named
  have C : CallFix p m c cX9_weighs 3 s _ mc_big RX9 := ⟨B.exec, B.bytes, hml, hown, fun w hw => atoms_spec B.pre w (List.mem_cons_of_mem _ hw)⟩
  have hx := C.1
  have hb := C.2.1
  have hC := And.intro C.1 C.2.1
  have hr := B.returns
  have hlk := B.notSynchronized
  have hS : va_S (mc_A 3 w) s.heap s.heap [] := va_S.rf
  have hl := lv_entry ([.ref (w.2.2.1 0), .int v1]) (n := 3) (Nat.le_of_ble_eq_true rfl)
  rw [lg_entry_eq]
  generalize (lg_sl ([.ref (w.2.2.1 0), .int v1]) ++ List.replicate (3 - (lg_sl ([.ref (w.2.2.1 0), .int v1])).length) Slot.unset).toArray = ls at hl ⊢
  have hl : lv_has ls 3 [(0, .ref (w.2.2.1 0)), (1, .int v1)] := hl
  unfold mi_X9_weighs at h
  refine lv_iload_n hx hb dX9_weighs_0 rfl (lv_at hl 1 rfl) ?_
  refine lv_if_ne (tgt := 27) hx hb dX9_weighs_1 (by decide) (fun c1 => ?_) (fun c1 => ?_)
  · replace h := mc_ie h c1
    exact bk_X9_weighs_J27 C hr hlk K  I v1 h  hP hS (lv_sub hl [0, 1] rfl)
  · replace h := mc_it h c1
    refine lv_aload_n hx hb dX9_weighs_4 rfl (lv_at hl 0 rfl) ?_
    refine mf_X9_7 C K hP kr_0 dX9_weighs_5 ?_
    refine lv_iconst (v := 3) hx hb dX9_weighs_8 (by decide) ?_
    obtain ⟨g9, h⟩ := mc_gd h
    refine ma_l16 hC K hP kr_1 g9 dX9_weighs_9 ?_
    refine lv_iconst (v := 1) hx hb dX9_weighs_10 (by decide) ?_
    refine lv_icmp_ne (tgt := 27) hx hb dX9_weighs_11 (by decide) (fun c10 => ?_) (fun c10 => ?_)
    · replace h := mc_ie h c10
      exact bk_X9_weighs_J27 C hr hlk K  I v1 h  hP hS (lv_sub hl [0, 1] rfl)
    · replace h := mc_it h c10
      refine lv_aload_n hx hb dX9_weighs_14 rfl (lv_at hl 0 rfl) ?_
      refine mf_X9_7 C K hP kr_0 dX9_weighs_15 ?_
      refine lv_iconst (v := 1) hx hb dX9_weighs_18 (by decide) ?_
      obtain ⟨g11, h⟩ := mc_gd h
      refine ma_l16 hC K hP kr_1 g11 dX9_weighs_19 ?_
      refine lv_if_le (tgt := 27) hx hb dX9_weighs_20 (by decide) (fun c12 => ?_) (fun c12 => ?_)
      · replace h := mc_it h c12
        exact bk_X9_weighs_J27 C hr hlk K  I v1 h  hP hS (lv_sub hl [0, 1] rfl)
      · replace h := mc_ie h c12
        refine lv_sipush (v := (-1004)) hx hb dX9_weighs_23 (by decide) ?_
        cases h
        exact mt_i hC hr hlk K hP hS dX9_weighs_26
set_option maxHeartbeats 4000000 in
set_option maxRecDepth 100000 in
theorem bk_X9_clamps_B138 {p : Program} {l : Launch} {e : Env} {s : State} {m : MethodId} {args : Array Value} {below : List Frame} {meth : Method} {c : Code} (C : CallFix p m c cX9_clamps 4 s args mc_big RX9) (hr : meth.sig.returnType = (some .int)) (hlk : meth.locks = false) {w : mc_w} (K : mc_K mr_k 3 w s) {R : Nat → Nat → Option Nat} {F : Nat} {Iz : Nat → Nat → Int32} {rz : Int32} {k138 : (Nat → Nat → Int32) → Int32 → Int32 → Int32 → (Option ((Nat → Nat → Int32) × Int32))} (hk138 : ∀ (I : Nat → Nat → Int32) (v1 : Int32) (v2 : Int32) (v3 : Int32), k138 I v1 v2 v3 = some (Iz, rz) → ∀ {H : Heap} {locs : List Loc} {ls : Array Slot}, mc_P mr_k 3 w I R H → va_S (mc_A 3 w) s.heap H locs → lv_has ls 4 [(0, .ref (w.2.2.1 0)), (1, .int v1), (2, .int v2), (3, .int v3)] → W p l e ({ frames := 1, cells := 0, slots := 0, locals := 21 } : Room) s m args below meth c H locs 0 0 (MQ below (mc_Q (some (.int rz)) (mc_B mr_k 3 w Iz R) (mc_A 3 w)) args s 0 0 (mc_A 3 w)) (F0 m 138 ls [])) : ∀ (I : Nat → Nat → Int32) (v1 : Int32) (v2 : Int32) (v3 : Int32), mi_X9_clamps_B138 k138 F I v1 v2 v3 = some (Iz, rz) → ∀ {H : Heap} {locs : List Loc} {ls : Array Slot}, mc_P mr_k 3 w I R H → va_S (mc_A 3 w) s.heap H locs → lv_has ls 4 [(0, .ref (w.2.2.1 0)), (1, .int v1), (2, .int v2), (3, .int v3)] → W p l e ({ frames := 1, cells := 0, slots := 0, locals := 21 } : Room) s m args below meth c H locs 0 0 (MQ below (mc_Q (some (.int rz)) (mc_B mr_k 3 w Iz R) (mc_A 3 w)) args s 0 0 (mc_A 3 w)) (F0 m 138 ls []) := by
  intro I v1 v2 v3 h  H locs ls hP hS hl
  have hx := C.1
  have hb := C.2.1
  have hC := And.intro C.1 C.2.1
  unfold mi_X9_clamps_B138 at h
  refine lv_iload_n hx hb dX9_clamps_138 rfl (lv_at hl 3 rfl) ?_
  refine lv_bipush (v := 12) hx hb dX9_clamps_139 (by decide) ?_
  refine lv_icmp_ge (tgt := 185) hx hb dX9_clamps_141 (by decide) (fun c10 => ?_) (fun c10 => ?_)
  · replace h := mc_it h c10
    refine lv_aload_n hx hb dX9_clamps_185 rfl (lv_at hl 0 rfl) ?_
    refine mf_X9_7 C K hP kr_0 dX9_clamps_186 ?_
    refine lv_iconst (v := 4) hx hb dX9_clamps_189 (by decide) ?_
    refine lv_dup2_11 hx hb dX9_clamps_190 rfl rfl ?_
    obtain ⟨g11, h⟩ := mc_gd h
    refine ma_l16 hC K hP kr_1 g11 dX9_clamps_191 ?_
    refine lv_iconst (v := 1) hx hb dX9_clamps_192 (by decide) ?_
    refine lv_iadd hx hb dX9_clamps_193 ?_
    obtain ⟨g12, h⟩ := mc_gd h
    obtain ⟨I13, eI13, h⟩ := mc_bn_e h
    refine ma_s16 hC K hP hS kr_1 g12 eI13 dX9_clamps_194 (fun H locs hP hS => ?_)
    refine lv_iload_n hx hb dX9_clamps_195 rfl (lv_at hl 2 rfl) ?_
    cases h
    exact mt_i hC hr hlk K hP hS dX9_clamps_196
  · replace h := mc_ie h c10
    refine lv_aload_n hx hb dX9_clamps_144 rfl (lv_at hl 0 rfl) ?_
    refine mf_X9_7 C K hP kr_0 dX9_clamps_145 ?_
    refine lv_iconst (v := 0) hx hb dX9_clamps_148 (by decide) ?_
    refine lv_iload_n hx hb dX9_clamps_149 rfl (lv_at hl 2 rfl) ?_
    refine mg_Si (As := [.int 0, .int v2]) (rest := [.ref (w.2.2.1 1)]) (ct_X9_bottleAt l (w := w) (I := I) (R := R) rfl) C K hP hS hl.1 ml_X9_34 wy_X9_bottleAt wd_X9_bottleAt rfl rfl rfl ⟨Nat.le_of_ble_eq_true rfl, Nat.le_of_ble_eq_true rfl⟩ (Nat.le_of_ble_eq_true rfl) ⟨Nat.zero_le _, Nat.zero_le _⟩ dX9_clamps_150 (fun H locs hP hS => ?_)
    refine lv_iload_n hx hb dX9_clamps_153 rfl (lv_at hl 3 rfl) ?_
    refine lv_iadd hx hb dX9_clamps_154 ?_
    refine lv_iload_n hx hb dX9_clamps_155 rfl (lv_at hl 3 rfl) ?_
    refine lv_if_ne (tgt := 168) hx hb dX9_clamps_156 (by decide) (fun c15 => ?_) (fun c15 => ?_)
    · replace h := mc_ie h c15
      refine lv_iload_n hx hb dX9_clamps_168 rfl (lv_at hl 3 rfl) ?_
      refine lv_iconst (v := 2) hx hb dX9_clamps_169 (by decide) ?_
      refine lv_icmp_ne (tgt := 177) hx hb dX9_clamps_170 (by decide) (fun c16 => ?_) (fun c16 => ?_)
      · replace h := mc_ie h c16
        refine lv_iconst (v := 0) hx hb dX9_clamps_177 (by decide) ?_
        obtain ⟨g17, h⟩ := mc_gd h
        obtain ⟨I18, eI18, h⟩ := mc_bn_e h
        refine ma_s16 hC K hP hS kr_1 g17 eI18 dX9_clamps_178 (fun H locs hP hS => ?_)
        obtain ⟨x19, ex19, h⟩ := mc_bn_e h
        refine lv_iinc (v := x19) (lv' := [(3, .int x19), (0, .ref (w.2.2.1 0)), (1, .int v1), (2, .int v2)]) hx hb dX9_clamps_179 hl (k := 3) rfl (by rw [ex19]; rfl) (by decide) rfl (fun ls hl => ?_)
        refine lv_goto (tgt := 138) hx hb dX9_clamps_182 (by decide) ?_
        exact hk138 I18 v1 v2 x19 h  hP hS (lv_sub hl [1, 2, 3, 0] rfl)
      · replace h := mc_it h c16
        refine lv_iload_n hx hb dX9_clamps_173 rfl (lv_at hl 1 rfl) ?_
        refine lv_goto (tgt := 178) hx hb dX9_clamps_174 (by decide) ?_
        obtain ⟨g20, h⟩ := mc_gd h
        obtain ⟨I21, eI21, h⟩ := mc_bn_e h
        refine ma_s16 hC K hP hS kr_1 g20 eI21 dX9_clamps_178 (fun H locs hP hS => ?_)
        obtain ⟨x22, ex22, h⟩ := mc_bn_e h
        refine lv_iinc (v := x22) (lv' := [(3, .int x22), (0, .ref (w.2.2.1 0)), (1, .int v1), (2, .int v2)]) hx hb dX9_clamps_179 hl (k := 3) rfl (by rw [ex22]; rfl) (by decide) rfl (fun ls hl => ?_)
        refine lv_goto (tgt := 138) hx hb dX9_clamps_182 (by decide) ?_
        exact hk138 I21 v1 v2 x22 h  hP hS (lv_sub hl [1, 2, 3, 0] rfl)
    · replace h := mc_it h c15
      refine lv_aload_n hx hb dX9_clamps_159 rfl (lv_at hl 0 rfl) ?_
      refine mf_X9_7 C K hP kr_0 dX9_clamps_160 ?_
      refine lv_iconst (v := 1) hx hb dX9_clamps_163 (by decide) ?_
      obtain ⟨g23, h⟩ := mc_gd h
      refine ma_l16 hC K hP kr_1 g23 dX9_clamps_164 ?_
      refine lv_goto (tgt := 178) hx hb dX9_clamps_165 (by decide) ?_
      obtain ⟨g24, h⟩ := mc_gd h
      obtain ⟨I25, eI25, h⟩ := mc_bn_e h
      refine ma_s16 hC K hP hS kr_1 g24 eI25 dX9_clamps_178 (fun H locs hP hS => ?_)
      obtain ⟨x26, ex26, h⟩ := mc_bn_e h
      refine lv_iinc (v := x26) (lv' := [(3, .int x26), (0, .ref (w.2.2.1 0)), (1, .int v1), (2, .int v2)]) hx hb dX9_clamps_179 hl (k := 3) rfl (by rw [ex26]; rfl) (by decide) rfl (fun ls hl => ?_)
      refine lv_goto (tgt := 138) hx hb dX9_clamps_182 (by decide) ?_
      exact hk138 I25 v1 v2 x26 h  hP hS (lv_sub hl [1, 2, 3, 0] rfl)
theorem bk_X9_clamps_L138 {p : Program} {l : Launch} {e : Env} {s : State} {m : MethodId} {args : Array Value} {below : List Frame} {meth : Method} {c : Code} (C : CallFix p m c cX9_clamps 4 s args mc_big RX9) (hr : meth.sig.returnType = (some .int)) (hlk : meth.locks = false) {w : mc_w} (K : mc_K mr_k 3 w s) {R : Nat → Nat → Option Nat} {F : Nat} {Iz : Nat → Nat → Int32} {rz : Int32} : ∀ n : Nat, ∀ (I : Nat → Nat → Int32) (v1 : Int32) (v2 : Int32) (v3 : Int32), mi_X9_clamps_L138 F n I v1 v2 v3 = some (Iz, rz) → ∀ {H : Heap} {locs : List Loc} {ls : Array Slot}, mc_P mr_k 3 w I R H → va_S (mc_A 3 w) s.heap H locs → lv_has ls 4 [(0, .ref (w.2.2.1 0)), (1, .int v1), (2, .int v2), (3, .int v3)] → W p l e ({ frames := 1, cells := 0, slots := 0, locals := 21 } : Room) s m args below meth c H locs 0 0 (MQ below (mc_Q (some (.int rz)) (mc_B mr_k 3 w Iz R) (mc_A 3 w)) args s 0 0 (mc_A 3 w)) (F0 m 138 ls []) := by
  intro n
  induction n with
  | zero =>
    intro I v1 v2 v3 h
    cases h
  | succ n ih =>
    intro I v1 v2 v3 h
    exact bk_X9_clamps_B138 C hr hlk K  ih I v1 v2 v3 h
set_option maxHeartbeats 4000000 in
set_option maxRecDepth 100000 in
theorem bk_X9_clamps_B106 {p : Program} {l : Launch} {e : Env} {s : State} {m : MethodId} {args : Array Value} {below : List Frame} {meth : Method} {c : Code} (C : CallFix p m c cX9_clamps 4 s args mc_big RX9) (hr : meth.sig.returnType = (some .int)) (hlk : meth.locks = false) {w : mc_w} (K : mc_K mr_k 3 w s) {R : Nat → Nat → Option Nat} {F : Nat} {Iz : Nat → Nat → Int32} {rz : Int32} {k106 : (Nat → Nat → Int32) → Int32 → Int32 → Int32 → (Option ((Nat → Nat → Int32) × Int32))} (hk106 : ∀ (I : Nat → Nat → Int32) (v1 : Int32) (v2 : Int32) (v3 : Int32), k106 I v1 v2 v3 = some (Iz, rz) → ∀ {H : Heap} {locs : List Loc} {ls : Array Slot}, mc_P mr_k 3 w I R H → va_S (mc_A 3 w) s.heap H locs → lv_has ls 4 [(0, .ref (w.2.2.1 0)), (1, .int v1), (2, .int v2), (3, .int v3)] → W p l e ({ frames := 1, cells := 0, slots := 0, locals := 21 } : Room) s m args below meth c H locs 0 0 (MQ below (mc_Q (some (.int rz)) (mc_B mr_k 3 w Iz R) (mc_A 3 w)) args s 0 0 (mc_A 3 w)) (F0 m 106 ls [])) : ∀ (I : Nat → Nat → Int32) (v1 : Int32) (v2 : Int32) (v3 : Int32), mi_X9_clamps_B106 k106 F I v1 v2 v3 = some (Iz, rz) → ∀ {H : Heap} {locs : List Loc} {ls : Array Slot}, mc_P mr_k 3 w I R H → va_S (mc_A 3 w) s.heap H locs → lv_has ls 4 [(0, .ref (w.2.2.1 0)), (1, .int v1), (2, .int v2), (3, .int v3)] → W p l e ({ frames := 1, cells := 0, slots := 0, locals := 21 } : Room) s m args below meth c H locs 0 0 (MQ below (mc_Q (some (.int rz)) (mc_B mr_k 3 w Iz R) (mc_A 3 w)) args s 0 0 (mc_A 3 w)) (F0 m 106 ls []) := by
  intro I v1 v2 v3 h  H locs ls hP hS hl
  have hx := C.1
  have hb := C.2.1
  have hC := And.intro C.1 C.2.1
  unfold mi_X9_clamps_B106 at h
  refine lv_iload_n hx hb dX9_clamps_106 rfl (lv_at hl 3 rfl) ?_
  refine lv_iconst (v := 0) hx hb dX9_clamps_107 (by decide) ?_
  refine lv_iload_n hx hb dX9_clamps_108 rfl (lv_at hl 2 rfl) ?_
  refine mg_Si (As := [.int 0, .int v2]) (rest := [.int v3]) (ct_X9_bottleAt l (w := w) (I := I) (R := R) rfl) C K hP hS hl.1 ml_X9_34 wy_X9_bottleAt wd_X9_bottleAt rfl rfl rfl ⟨Nat.le_of_ble_eq_true rfl, Nat.le_of_ble_eq_true rfl⟩ (Nat.le_of_ble_eq_true rfl) ⟨Nat.zero_le _, Nat.zero_le _⟩ dX9_clamps_109 (fun H locs hP hS => ?_)
  refine lv_icmp_lt (tgt := 136) hx hb dX9_clamps_112 (by decide) (fun c9 => ?_) (fun c9 => ?_)
  · replace h := mc_it h c9
    refine lv_iconst (v := 0) hx hb dX9_clamps_136 (by decide) ?_
    refine lv_istore_n (i := 3) (lv' := [(3, .int 0), (0, .ref (w.2.2.1 0)), (1, .int v1), (2, .int v2)]) hx hb dX9_clamps_137 rfl hl (by decide) rfl (fun ls hl => ?_)
    exact bk_X9_clamps_L138 C hr hlk K  F I v1 v2 0 h  hP hS (lv_sub hl [1, 2, 3, 0] rfl)
  · replace h := mc_ie h c9
    refine lv_aload_n hx hb dX9_clamps_115 rfl (lv_at hl 0 rfl) ?_
    refine mf_X9_7 C K hP kr_0 dX9_clamps_116 ?_
    refine lv_iload_n hx hb dX9_clamps_119 rfl (lv_at hl 3 rfl) ?_
    refine lv_bipush (v := 12) hx hb dX9_clamps_120 (by decide) ?_
    refine lv_iadd hx hb dX9_clamps_122 ?_
    refine lv_aload_n hx hb dX9_clamps_123 rfl (lv_at hl 0 rfl) ?_
    refine mf_X9_7 C K hP kr_0 dX9_clamps_124 ?_
    refine lv_iload_n hx hb dX9_clamps_127 rfl (lv_at hl 3 rfl) ?_
    obtain ⟨g27, h⟩ := mc_gd h
    refine ma_l16 hC K hP kr_1 g27 dX9_clamps_128 ?_
    obtain ⟨g28, h⟩ := mc_gd h
    obtain ⟨I29, eI29, h⟩ := mc_bn_e h
    refine ma_s16 hC K hP hS kr_1 g28 eI29 dX9_clamps_129 (fun H locs hP hS => ?_)
    obtain ⟨x30, ex30, h⟩ := mc_bn_e h
    refine lv_iinc (v := x30) (lv' := [(3, .int x30), (0, .ref (w.2.2.1 0)), (1, .int v1), (2, .int v2)]) hx hb dX9_clamps_130 hl (k := 3) rfl (by rw [ex30]; rfl) (by decide) rfl (fun ls hl => ?_)
    refine lv_goto (tgt := 106) hx hb dX9_clamps_133 (by decide) ?_
    exact hk106 I29 v1 v2 x30 h  hP hS (lv_sub hl [1, 2, 3, 0] rfl)
theorem bk_X9_clamps_L106 {p : Program} {l : Launch} {e : Env} {s : State} {m : MethodId} {args : Array Value} {below : List Frame} {meth : Method} {c : Code} (C : CallFix p m c cX9_clamps 4 s args mc_big RX9) (hr : meth.sig.returnType = (some .int)) (hlk : meth.locks = false) {w : mc_w} (K : mc_K mr_k 3 w s) {R : Nat → Nat → Option Nat} {F : Nat} {Iz : Nat → Nat → Int32} {rz : Int32} : ∀ n : Nat, ∀ (I : Nat → Nat → Int32) (v1 : Int32) (v2 : Int32) (v3 : Int32), mi_X9_clamps_L106 F n I v1 v2 v3 = some (Iz, rz) → ∀ {H : Heap} {locs : List Loc} {ls : Array Slot}, mc_P mr_k 3 w I R H → va_S (mc_A 3 w) s.heap H locs → lv_has ls 4 [(0, .ref (w.2.2.1 0)), (1, .int v1), (2, .int v2), (3, .int v3)] → W p l e ({ frames := 1, cells := 0, slots := 0, locals := 21 } : Room) s m args below meth c H locs 0 0 (MQ below (mc_Q (some (.int rz)) (mc_B mr_k 3 w Iz R) (mc_A 3 w)) args s 0 0 (mc_A 3 w)) (F0 m 106 ls []) := by
  intro n
  induction n with
  | zero =>
    intro I v1 v2 v3 h
    cases h
  | succ n ih =>
    intro I v1 v2 v3 h
    exact bk_X9_clamps_B106 C hr hlk K  ih I v1 v2 v3 h
set_option maxHeartbeats 4000000 in
set_option maxRecDepth 100000 in
theorem bk_X9_clamps_B19 {p : Program} {l : Launch} {e : Env} {s : State} {m : MethodId} {args : Array Value} {below : List Frame} {meth : Method} {c : Code} (C : CallFix p m c cX9_clamps 4 s args mc_big RX9) (hr : meth.sig.returnType = (some .int)) (hlk : meth.locks = false) {w : mc_w} (K : mc_K mr_k 3 w s) {R : Nat → Nat → Option Nat} {F : Nat} {Iz : Nat → Nat → Int32} {rz : Int32} {k19 : (Nat → Nat → Int32) → Int32 → Int32 → Int32 → (Option ((Nat → Nat → Int32) × Int32))} (hk19 : ∀ (I : Nat → Nat → Int32) (v1 : Int32) (v2 : Int32) (v3 : Int32), k19 I v1 v2 v3 = some (Iz, rz) → ∀ {H : Heap} {locs : List Loc} {ls : Array Slot}, mc_P mr_k 3 w I R H → va_S (mc_A 3 w) s.heap H locs → lv_has ls 4 [(0, .ref (w.2.2.1 0)), (1, .int v1), (2, .int v2), (3, .int v3)] → W p l e ({ frames := 1, cells := 0, slots := 0, locals := 21 } : Room) s m args below meth c H locs 0 0 (MQ below (mc_Q (some (.int rz)) (mc_B mr_k 3 w Iz R) (mc_A 3 w)) args s 0 0 (mc_A 3 w)) (F0 m 19 ls [])) : ∀ (I : Nat → Nat → Int32) (v1 : Int32) (v2 : Int32) (v3 : Int32), mi_X9_clamps_B19 k19 F I v1 v2 v3 = some (Iz, rz) → ∀ {H : Heap} {locs : List Loc} {ls : Array Slot}, mc_P mr_k 3 w I R H → va_S (mc_A 3 w) s.heap H locs → lv_has ls 4 [(0, .ref (w.2.2.1 0)), (1, .int v1), (2, .int v2), (3, .int v3)] → W p l e ({ frames := 1, cells := 0, slots := 0, locals := 21 } : Room) s m args below meth c H locs 0 0 (MQ below (mc_Q (some (.int rz)) (mc_B mr_k 3 w Iz R) (mc_A 3 w)) args s 0 0 (mc_A 3 w)) (F0 m 19 ls []) := by
  intro I v1 v2 v3 h  H locs ls hP hS hl
  have hx := C.1
  have hb := C.2.1
  have hC := And.intro C.1 C.2.1
  unfold mi_X9_clamps_B19 at h
  refine lv_iload_n hx hb dX9_clamps_19 rfl (lv_at hl 3 rfl) ?_
  refine lv_aload_n hx hb dX9_clamps_20 rfl (lv_at hl 0 rfl) ?_
  refine mf_X9_7 C K hP kr_0 dX9_clamps_21 ?_
  refine lv_iconst (v := 4) hx hb dX9_clamps_24 (by decide) ?_
  obtain ⟨g3, h⟩ := mc_gd h
  refine ma_l16 hC K hP kr_1 g3 dX9_clamps_25 ?_
  refine lv_icmp_ge (tgt := 93) hx hb dX9_clamps_26 (by decide) (fun c4 => ?_) (fun c4 => ?_)
  · replace h := mc_it h c4
    refine lv_iconst (v := 0) hx hb dX9_clamps_93 (by decide) ?_
    refine lv_aload_n hx hb dX9_clamps_94 rfl (lv_at hl 0 rfl) ?_
    refine mf_X9_7 C K hP kr_0 dX9_clamps_95 ?_
    refine lv_iconst (v := 4) hx hb dX9_clamps_98 (by decide) ?_
    obtain ⟨g5, h⟩ := mc_gd h
    refine ma_l16 hC K hP kr_1 g5 dX9_clamps_99 ?_
    refine mg_Si (As := [.int 0, .int (I 1 (4 : Int32).toNatClampNeg)]) (rest := []) (ct_X9_bottleAt l (w := w) (I := I) (R := R) rfl) C K hP hS hl.1 ml_X9_34 wy_X9_bottleAt wd_X9_bottleAt rfl rfl rfl ⟨Nat.le_of_ble_eq_true rfl, Nat.le_of_ble_eq_true rfl⟩ (Nat.le_of_ble_eq_true rfl) ⟨Nat.zero_le _, Nat.zero_le _⟩ dX9_clamps_100 (fun H locs hP hS => ?_)
    refine lv_iconst (v := 1) hx hb dX9_clamps_103 (by decide) ?_
    refine lv_isub hx hb dX9_clamps_104 ?_
    obtain ⟨x7, ex7, h⟩ := mc_bn_e h
    refine mv_top ex7 ?_
    refine lv_istore_n (i := 3) (lv' := [(3, .int x7), (0, .ref (w.2.2.1 0)), (1, .int v1), (2, .int v2)]) hx hb dX9_clamps_105 rfl hl (by decide) rfl (fun ls hl => ?_)
    exact bk_X9_clamps_L106 C hr hlk K  F I v1 v2 x7 h  hP hS (lv_sub hl [1, 2, 3, 0] rfl)
  · replace h := mc_ie h c4
    refine lv_aload_n hx hb dX9_clamps_29 rfl (lv_at hl 0 rfl) ?_
    refine mf_X9_7 C K hP kr_0 dX9_clamps_30 ?_
    refine lv_iconst (v := 0) hx hb dX9_clamps_33 (by decide) ?_
    refine lv_iload_n hx hb dX9_clamps_34 rfl (lv_at hl 3 rfl) ?_
    refine mg_Si (As := [.int 0, .int v3]) (rest := [.ref (w.2.2.1 1)]) (ct_X9_bottleAt l (w := w) (I := I) (R := R) rfl) C K hP hS hl.1 ml_X9_34 wy_X9_bottleAt wd_X9_bottleAt rfl rfl rfl ⟨Nat.le_of_ble_eq_true rfl, Nat.le_of_ble_eq_true rfl⟩ (Nat.le_of_ble_eq_true rfl) ⟨Nat.zero_le _, Nat.zero_le _⟩ dX9_clamps_35 (fun H locs hP hS => ?_)
    obtain ⟨g32, h⟩ := mc_gd h
    refine ma_l16 hC K hP kr_1 g32 dX9_clamps_38 ?_
    refine lv_aload_n hx hb dX9_clamps_39 rfl (lv_at hl 0 rfl) ?_
    refine mf_X9_7 C K hP kr_0 dX9_clamps_40 ?_
    refine lv_iconst (v := 1) hx hb dX9_clamps_43 (by decide) ?_
    obtain ⟨g33, h⟩ := mc_gd h
    refine ma_l16 hC K hP kr_1 g33 dX9_clamps_44 ?_
    refine lv_isub hx hb dX9_clamps_45 ?_
    refine mg_Si (As := [.int ((I 1 (mi_X9_bottleAt 0 v3).toNatClampNeg) - (I 1 (1 : Int32).toNatClampNeg))]) (rest := []) (ct_X9_size l (w := w) (I := I) (R := R) rfl) C K hP hS hl.1 ml_X9_85 wy_X9_size wd_X9_size rfl rfl rfl ⟨Nat.le_of_ble_eq_true rfl, Nat.le_of_ble_eq_true rfl⟩ (Nat.le_of_ble_eq_true rfl) ⟨Nat.zero_le _, Nat.zero_le _⟩ dX9_clamps_46 (fun H locs hP hS => ?_)
    refine lv_iconst (v := 5) hx hb dX9_clamps_49 (by decide) ?_
    refine lv_icmp_ge (tgt := 57) hx hb dX9_clamps_50 (by decide) (fun c35 => ?_) (fun c35 => ?_)
    · replace h := mc_it h c35
      refine lv_iload_n hx hb dX9_clamps_57 rfl (lv_at hl 2 rfl) ?_
      refine lv_aload_n hx hb dX9_clamps_58 rfl (lv_at hl 0 rfl) ?_
      refine mf_X9_7 C K hP kr_0 dX9_clamps_59 ?_
      refine lv_iconst (v := 0) hx hb dX9_clamps_62 (by decide) ?_
      refine lv_iload_n hx hb dX9_clamps_63 rfl (lv_at hl 3 rfl) ?_
      refine mg_Si (As := [.int 0, .int v3]) (rest := [.ref (w.2.2.1 1), .int v2]) (ct_X9_bottleAt l (w := w) (I := I) (R := R) rfl) C K hP hS hl.1 ml_X9_34 wy_X9_bottleAt wd_X9_bottleAt rfl rfl rfl ⟨Nat.le_of_ble_eq_true rfl, Nat.le_of_ble_eq_true rfl⟩ (Nat.le_of_ble_eq_true rfl) ⟨Nat.zero_le _, Nat.zero_le _⟩ dX9_clamps_64 (fun H locs hP hS => ?_)
      obtain ⟨g37, h⟩ := mc_gd h
      refine ma_l16 hC K hP kr_1 g37 dX9_clamps_67 ?_
      refine lv_aload_n hx hb dX9_clamps_68 rfl (lv_at hl 0 rfl) ?_
      refine mf_X9_7 C K hP kr_0 dX9_clamps_69 ?_
      refine lv_iconst (v := 1) hx hb dX9_clamps_72 (by decide) ?_
      obtain ⟨g38, h⟩ := mc_gd h
      refine ma_l16 hC K hP kr_1 g38 dX9_clamps_73 ?_
      refine lv_icmp_ge (tgt := 81) hx hb dX9_clamps_74 (by decide) (fun c39 => ?_) (fun c39 => ?_)
      · replace h := mc_it h c39
        refine lv_iconst (v := 0) hx hb dX9_clamps_81 (by decide) ?_
        refine mg_Si (As := [.int 0]) (rest := [.int v2]) (ct_X9_flag l (w := w) (I := I) (R := R) rfl) C K hP hS hl.1 ml_X9_74 wy_X9_flag wd_X9_flag rfl rfl rfl ⟨Nat.le_of_ble_eq_true rfl, Nat.le_of_ble_eq_true rfl⟩ (Nat.le_of_ble_eq_true rfl) ⟨Nat.zero_le _, Nat.zero_le _⟩ dX9_clamps_82 (fun H locs hP hS => ?_)
        refine lv_iadd hx hb dX9_clamps_85 ?_
        obtain ⟨x41, ex41, h⟩ := mc_bn_e h
        refine mv_top ex41 ?_
        refine lv_istore_n (i := 2) (lv' := [(2, .int x41), (0, .ref (w.2.2.1 0)), (1, .int v1), (3, .int v3)]) hx hb dX9_clamps_86 rfl hl (by decide) rfl (fun ls hl => ?_)
        obtain ⟨x42, ex42, h⟩ := mc_bn_e h
        refine lv_iinc (v := x42) (lv' := [(3, .int x42), (2, .int x41), (0, .ref (w.2.2.1 0)), (1, .int v1)]) hx hb dX9_clamps_87 hl (k := 3) rfl (by rw [ex42]; rfl) (by decide) rfl (fun ls hl => ?_)
        refine lv_goto (tgt := 19) hx hb dX9_clamps_90 (by decide) ?_
        exact hk19 I v1 x41 x42 h  hP hS (lv_sub hl [2, 3, 1, 0] rfl)
      · replace h := mc_ie h c39
        refine lv_iconst (v := 1) hx hb dX9_clamps_77 (by decide) ?_
        refine lv_goto (tgt := 82) hx hb dX9_clamps_78 (by decide) ?_
        refine mg_Si (As := [.int 1]) (rest := [.int v2]) (ct_X9_flag l (w := w) (I := I) (R := R) rfl) C K hP hS hl.1 ml_X9_74 wy_X9_flag wd_X9_flag rfl rfl rfl ⟨Nat.le_of_ble_eq_true rfl, Nat.le_of_ble_eq_true rfl⟩ (Nat.le_of_ble_eq_true rfl) ⟨Nat.zero_le _, Nat.zero_le _⟩ dX9_clamps_82 (fun H locs hP hS => ?_)
        refine lv_iadd hx hb dX9_clamps_85 ?_
        obtain ⟨x44, ex44, h⟩ := mc_bn_e h
        refine mv_top ex44 ?_
        refine lv_istore_n (i := 2) (lv' := [(2, .int x44), (0, .ref (w.2.2.1 0)), (1, .int v1), (3, .int v3)]) hx hb dX9_clamps_86 rfl hl (by decide) rfl (fun ls hl => ?_)
        obtain ⟨x45, ex45, h⟩ := mc_bn_e h
        refine lv_iinc (v := x45) (lv' := [(3, .int x45), (2, .int x44), (0, .ref (w.2.2.1 0)), (1, .int v1)]) hx hb dX9_clamps_87 hl (k := 3) rfl (by rw [ex45]; rfl) (by decide) rfl (fun ls hl => ?_)
        refine lv_goto (tgt := 19) hx hb dX9_clamps_90 (by decide) ?_
        exact hk19 I v1 x44 x45 h  hP hS (lv_sub hl [2, 3, 1, 0] rfl)
    · replace h := mc_ie h c35
      refine lv_sipush (v := (-1004)) hx hb dX9_clamps_53 (by decide) ?_
      cases h
      exact mt_i hC hr hlk K hP hS dX9_clamps_56
theorem bk_X9_clamps_L19 {p : Program} {l : Launch} {e : Env} {s : State} {m : MethodId} {args : Array Value} {below : List Frame} {meth : Method} {c : Code} (C : CallFix p m c cX9_clamps 4 s args mc_big RX9) (hr : meth.sig.returnType = (some .int)) (hlk : meth.locks = false) {w : mc_w} (K : mc_K mr_k 3 w s) {R : Nat → Nat → Option Nat} {F : Nat} {Iz : Nat → Nat → Int32} {rz : Int32} : ∀ n : Nat, ∀ (I : Nat → Nat → Int32) (v1 : Int32) (v2 : Int32) (v3 : Int32), mi_X9_clamps_L19 F n I v1 v2 v3 = some (Iz, rz) → ∀ {H : Heap} {locs : List Loc} {ls : Array Slot}, mc_P mr_k 3 w I R H → va_S (mc_A 3 w) s.heap H locs → lv_has ls 4 [(0, .ref (w.2.2.1 0)), (1, .int v1), (2, .int v2), (3, .int v3)] → W p l e ({ frames := 1, cells := 0, slots := 0, locals := 21 } : Room) s m args below meth c H locs 0 0 (MQ below (mc_Q (some (.int rz)) (mc_B mr_k 3 w Iz R) (mc_A 3 w)) args s 0 0 (mc_A 3 w)) (F0 m 19 ls []) := by
  intro n
  induction n with
  | zero =>
    intro I v1 v2 v3 h
    cases h
  | succ n ih =>
    intro I v1 v2 v3 h
    exact bk_X9_clamps_B19 C hr hlk K  ih I v1 v2 v3 h
set_option maxHeartbeats 4000000 in
set_option maxRecDepth 100000 in
theorem ct_X9_clamps (l : Launch) {w : mc_w} {I : Nat → Nat → Int32} {R : Nat → Nat → Option Nat} {F : Nat} {v1 : Int32} {Iz : Nat → Nat → Int32} {rz : Int32} (h : mi_X9_clamps F I v1 = some (Iz, rz)) : Met l yX9_clamps (Cond.code yX9_clamps cX9_clamps 4 (some .int) :: mc_big) ({ frames := 1, cells := 0, slots := 0, locals := 21 } : Room) (va_Pc [.ref (w.2.2.1 0), .int v1] (mc_B mr_k 3 w I R)) (mc_Q (some (.int rz)) (mc_B mr_k 3 w Iz R) (mc_A 3 w)) 0 0 (mc_A 3 w) := by
  refine Met.ofW (cc := cX9_clamps) (maxL := 4) (ret := (some .int)) (by decide) rfl ?_
  intro p e s m args below meth c s₁ B hml hv
  obtain ⟨rfl, hP, K⟩ := hv
  have hown : s.vm.findClass RX9 = some m.cls := findClass_of_methodNamed B.named
  have C : CallFix p m c cX9_clamps 4 s _ mc_big RX9 := ⟨B.exec, B.bytes, hml, hown, fun w hw => atoms_spec B.pre w (List.mem_cons_of_mem _ hw)⟩
  have hx := C.1
  have hb := C.2.1
  have hC := And.intro C.1 C.2.1
  have hr := B.returns
  have hlk := B.notSynchronized
  have hS : va_S (mc_A 3 w) s.heap s.heap [] := va_S.rf
  have hl := lv_entry ([.ref (w.2.2.1 0), .int v1]) (n := 4) (Nat.le_of_ble_eq_true rfl)
  rw [lg_entry_eq]
  generalize (lg_sl ([.ref (w.2.2.1 0), .int v1]) ++ List.replicate (4 - (lg_sl ([.ref (w.2.2.1 0), .int v1])).length) Slot.unset).toArray = ls at hl ⊢
  have hl : lv_has ls 4 [(0, .ref (w.2.2.1 0)), (1, .int v1)] := hl
  unfold mi_X9_clamps at h
  refine lv_aload_n hx hb dX9_clamps_0 rfl (lv_at hl 0 rfl) ?_
  refine mf_X9_7 C K hP kr_0 dX9_clamps_1 ?_
  refine lv_iconst (v := 4) hx hb dX9_clamps_4 (by decide) ?_
  obtain ⟨g1, h⟩ := mc_gd h
  refine ma_l16 hC K hP kr_1 g1 dX9_clamps_5 ?_
  refine lv_bipush (v := 10) hx hb dX9_clamps_6 (by decide) ?_
  refine lv_icmp_ne (tgt := 15) hx hb dX9_clamps_8 (by decide) (fun c2 => ?_) (fun c2 => ?_)
  · replace h := mc_ie h c2
    refine lv_iconst (v := 0) hx hb dX9_clamps_15 (by decide) ?_
    refine lv_istore_n (i := 2) (lv' := [(2, .int 0), (0, .ref (w.2.2.1 0)), (1, .int v1)]) hx hb dX9_clamps_16 rfl hl (by decide) rfl (fun ls hl => ?_)
    refine lv_iconst (v := 0) hx hb dX9_clamps_17 (by decide) ?_
    refine lv_istore_n (i := 3) (lv' := [(3, .int 0), (2, .int 0), (0, .ref (w.2.2.1 0)), (1, .int v1)]) hx hb dX9_clamps_18 rfl hl (by decide) rfl (fun ls hl => ?_)
    exact bk_X9_clamps_L19 C hr hlk K  F I v1 0 0 h  hP hS (lv_sub hl [2, 3, 1, 0] rfl)
  · replace h := mc_it h c2
    refine lv_sipush (v := (-1003)) hx hb dX9_clamps_11 (by decide) ?_
    cases h
    exact mt_i hC hr hlk K hP hS dX9_clamps_14
set_option maxHeartbeats 4000000 in
set_option maxRecDepth 100000 in
theorem ct_X9_sends (l : Launch) {w : mc_w} {I : Nat → Nat → Int32} {R : Nat → Nat → Option Nat} {F : Nat} {Iz : Nat → Nat → Int32} {rz : Int32} (h : mi_X9_sends F I = some (Iz, rz)) : Met l yX9_sends (Cond.code yX9_sends cX9_sends 1 (some .int) :: mc_big) ({ frames := 2, cells := 0, slots := 0, locals := 45 } : Room) (va_Pc [.ref (w.2.2.1 0)] (mc_B mr_k 3 w I R)) (mc_Q (some (.int rz)) (mc_B mr_k 3 w Iz R) (mc_A 3 w)) 0 0 (mc_A 3 w) := by
  refine Met.ofW (cc := cX9_sends) (maxL := 1) (ret := (some .int)) (by decide) rfl ?_
  intro p e s m args below meth c s₁ B hml hv
  obtain ⟨rfl, hP, K⟩ := hv
  have hown : s.vm.findClass RX9 = some m.cls := findClass_of_methodNamed B.named
  have C : CallFix p m c cX9_sends 1 s _ mc_big RX9 := ⟨B.exec, B.bytes, hml, hown, fun w hw => atoms_spec B.pre w (List.mem_cons_of_mem _ hw)⟩
  have hx := C.1
  have hb := C.2.1
  have hC := And.intro C.1 C.2.1
  have hr := B.returns
  have hlk := B.notSynchronized
  have hS : va_S (mc_A 3 w) s.heap s.heap [] := va_S.rf
  have hl := lv_entry ([.ref (w.2.2.1 0)]) (n := 1) (Nat.le_of_ble_eq_true rfl)
  rw [lg_entry_eq]
  generalize (lg_sl ([.ref (w.2.2.1 0)]) ++ List.replicate (1 - (lg_sl ([.ref (w.2.2.1 0)])).length) Slot.unset).toArray = ls at hl ⊢
  have hl : lv_has ls 1 [(0, .ref (w.2.2.1 0))] := hl
  unfold mi_X9_sends at h
  refine lv_aload_n hx hb dX9_sends_0 rfl (lv_at hl 0 rfl) ?_
  refine mf_X9_7 C K hP kr_0 dX9_sends_1 ?_
  refine lv_iconst (v := 1) hx hb dX9_sends_4 (by decide) ?_
  obtain ⟨g1, h⟩ := mc_gd h
  refine ma_l16 hC K hP kr_1 g1 dX9_sends_5 ?_
  refine lv_if_ne (tgt := 13) hx hb dX9_sends_6 (by decide) (fun c2 => ?_) (fun c2 => ?_)
  · replace h := mc_ie h c2
    refine lv_aload_n hx hb dX9_sends_13 rfl (lv_at hl 0 rfl) ?_
    refine mf_X9_7 C K hP kr_0 dX9_sends_14 ?_
    refine lv_iconst (v := 5) hx hb dX9_sends_17 (by decide) ?_
    obtain ⟨g3, h⟩ := mc_gd h
    refine ma_l16 hC K hP kr_1 g3 dX9_sends_18 ?_
    refine lv_bipush (v := 12) hx hb dX9_sends_19 (by decide) ?_
    refine lv_icmp_ne (tgt := 28) hx hb dX9_sends_21 (by decide) (fun c4 => ?_) (fun c4 => ?_)
    · replace h := mc_ie h c4
      refine lv_aload_n hx hb dX9_sends_28 rfl (lv_at hl 0 rfl) ?_
      refine lv_iconst (v := 0) hx hb dX9_sends_29 (by decide) ?_
      refine lv_aload_n hx hb dX9_sends_30 rfl (lv_at hl 0 rfl) ?_
      refine mf_X9_7 C K hP kr_0 dX9_sends_31 ?_
      refine lv_iconst (v := 1) hx hb dX9_sends_34 (by decide) ?_
      obtain ⟨g5, h⟩ := mc_gd h
      refine ma_l16 hC K hP kr_1 g5 dX9_sends_35 ?_
      refine lv_iconst (v := 0) hx hb dX9_sends_36 (by decide) ?_
      obtain ⟨I6, e7, h⟩ := mc_ob_e h
      refine mg_Vv (As := [.int 0, .int (I 1 (1 : Int32).toNatClampNeg), .int 0]) (rest := []) (ct_X9_starts l (w := w) (I := I) (R := R) e7) C K hP hS hl.1 kr_0 (by decide) rfl rfl ml_X9_60 wy_X9_starts wd_X9_starts rfl rfl rfl ⟨Nat.le_of_ble_eq_true rfl, Nat.le_of_ble_eq_true rfl⟩ (Nat.le_of_ble_eq_true rfl) ⟨Nat.zero_le _, Nat.zero_le _⟩ dX9_sends_37 (fun H locs hP hS => ?_)
      refine lv_aload_n hx hb dX9_sends_40 rfl (lv_at hl 0 rfl) ?_
      refine mf_X9_7 C K hP kr_0 dX9_sends_41 ?_
      refine lv_bipush (v := 6) hx hb dX9_sends_44 (by decide) ?_
      refine lv_dup2_11 hx hb dX9_sends_46 rfl rfl ?_
      obtain ⟨g8, h⟩ := mc_gd h
      refine ma_l16 hC K hP kr_1 g8 dX9_sends_47 ?_
      refine lv_iconst (v := 1) hx hb dX9_sends_48 (by decide) ?_
      refine lv_iadd hx hb dX9_sends_49 ?_
      obtain ⟨g9, h⟩ := mc_gd h
      obtain ⟨I10, eI10, h⟩ := mc_bn_e h
      refine ma_s16 hC K hP hS kr_1 g9 eI10 dX9_sends_50 (fun H locs hP hS => ?_)
      refine lv_aload_n hx hb dX9_sends_51 rfl (lv_at hl 0 rfl) ?_
      refine mf_X9_7 C K hP kr_0 dX9_sends_52 ?_
      refine lv_iconst (v := 5) hx hb dX9_sends_55 (by decide) ?_
      obtain ⟨g11, h⟩ := mc_gd h
      refine ma_l16 hC K hP kr_1 g11 dX9_sends_56 ?_
      cases h
      exact mt_i hC hr hlk K hP hS dX9_sends_57
    · replace h := mc_it h c4
      refine lv_sipush (v := (-1003)) hx hb dX9_sends_24 (by decide) ?_
      cases h
      exact mt_i hC hr hlk K hP hS dX9_sends_27
  · replace h := mc_it h c2
    refine lv_sipush (v := (-1004)) hx hb dX9_sends_9 (by decide) ?_
    cases h
    exact mt_i hC hr hlk K hP hS dX9_sends_12
set_option maxHeartbeats 4000000 in
set_option maxRecDepth 100000 in
theorem ct_X9_passes (l : Launch) {w : mc_w} {I : Nat → Nat → Int32} {R : Nat → Nat → Option Nat} {F : Nat} {v1 : Int32} {Iz : Nat → Nat → Int32} {rz : Int32} (h : mi_X9_passes F I v1 = some (Iz, rz)) : Met l yX9_passes (Cond.code yX9_passes cX9_passes 2 (some .int) :: mc_big) ({ frames := 7, cells := 0, slots := 0, locals := 166 } : Room) (va_Pc [.ref (w.2.2.1 0), .int v1] (mc_B mr_k 3 w I R)) (mc_Q (some (.int rz)) (mc_B mr_k 3 w Iz R) (mc_A 3 w)) 0 0 (mc_A 3 w) := by
  refine Met.ofW (cc := cX9_passes) (maxL := 2) (ret := (some .int)) (by decide) rfl ?_
  intro p e s m args below meth c s₁ B hml hv
  obtain ⟨rfl, hP, K⟩ := hv
  have hown : s.vm.findClass RX9 = some m.cls := findClass_of_methodNamed B.named
  have C : CallFix p m c cX9_passes 2 s _ mc_big RX9 := ⟨B.exec, B.bytes, hml, hown, fun w hw => atoms_spec B.pre w (List.mem_cons_of_mem _ hw)⟩
  have hx := C.1
  have hb := C.2.1
  have hC := And.intro C.1 C.2.1
  have hr := B.returns
  have hlk := B.notSynchronized
  have hS : va_S (mc_A 3 w) s.heap s.heap [] := va_S.rf
  have hl := lv_entry ([.ref (w.2.2.1 0), .int v1]) (n := 2) (Nat.le_of_ble_eq_true rfl)
  rw [lg_entry_eq]
  generalize (lg_sl ([.ref (w.2.2.1 0), .int v1]) ++ List.replicate (2 - (lg_sl ([.ref (w.2.2.1 0), .int v1])).length) Slot.unset).toArray = ls at hl ⊢
  have hl : lv_has ls 2 [(0, .ref (w.2.2.1 0)), (1, .int v1)] := hl
  unfold mi_X9_passes at h
  refine lv_iload_n hx hb dX9_passes_0 rfl (lv_at hl 1 rfl) ?_
  refine lv_iconst (v := 1) hx hb dX9_passes_1 (by decide) ?_
  refine lv_sipush (v := 999) hx hb dX9_passes_2 (by decide) ?_
  refine mg_Sz (As := [.int v1, .int 1, .int 999]) (rest := []) (ct_X9_in l (w := w) (I := I) (R := R) rfl) C K hP hS hl.1 ml_X9_81 wy_X9_in wd_X9_in rfl rfl rfl ⟨Nat.le_of_ble_eq_true rfl, Nat.le_of_ble_eq_true rfl⟩ (Nat.le_of_ble_eq_true rfl) ⟨Nat.zero_le _, Nat.zero_le _⟩ dX9_passes_5 (fun H locs hP z2 hS => ?_)
  refine lv_if_ne (tgt := 17) hx hb dX9_passes_8 (by decide) (fun c3 => ?_) (fun c3 => ?_)
  · replace h := mc_ie h c3
    refine lv_aload_n hx hb dX9_passes_17 rfl (lv_at hl 0 rfl) ?_
    refine mf_X9_7 C K hP kr_0 dX9_passes_18 ?_
    refine lv_iconst (v := 0) hx hb dX9_passes_21 (by decide) ?_
    obtain ⟨g4, h⟩ := mc_gd h
    refine ma_l16 hC K hP kr_1 g4 dX9_passes_22 ?_
    refine lv_iload_n hx hb dX9_passes_23 rfl (lv_at hl 1 rfl) ?_
    refine lv_iadd hx hb dX9_passes_24 ?_
    refine lv_ldc hx hb C.2.2.2.1 (C.2.2.2.2 _ wk_X9_91) dX9_passes_25 ?_
    refine lv_icmp_le (tgt := 36) hx hb dX9_passes_27 (by decide) (fun c5 => ?_) (fun c5 => ?_)
    · replace h := mc_it h c5
      refine lv_aload_n hx hb dX9_passes_36 rfl (lv_at hl 0 rfl) ?_
      refine lv_iconst (v := 0) hx hb dX9_passes_37 (by decide) ?_
      refine lv_iload_n hx hb dX9_passes_38 rfl (lv_at hl 1 rfl) ?_
      obtain ⟨I6, r7, e8, h⟩ := mc_ob2_e h
      refine mg_Vi (As := [.int 0, .int v1]) (rest := []) (ct_X9_seconds l (w := w) (I := I) (R := R) e8) C K hP hS hl.1 kr_0 (by decide) rfl rfl ml_X9_92 wy_X9_seconds wd_X9_seconds rfl rfl rfl ⟨Nat.le_of_ble_eq_true rfl, Nat.le_of_ble_eq_true rfl⟩ (Nat.le_of_ble_eq_true rfl) ⟨Nat.zero_le _, Nat.zero_le _⟩ dX9_passes_39 (fun H locs hP hS => ?_)
      cases h
      exact mt_i hC hr hlk K hP hS dX9_passes_42
    · replace h := mc_ie h c5
      refine lv_sipush (v := (-1003)) hx hb dX9_passes_30 (by decide) ?_
      refine lv_goto (tgt := 42) hx hb dX9_passes_33 (by decide) ?_
      cases h
      exact mt_i hC hr hlk K hP hS dX9_passes_42
  · replace h := mc_it h c3
    refine lv_sipush (v := (-1002)) hx hb dX9_passes_11 (by decide) ?_
    refine lv_goto (tgt := 42) hx hb dX9_passes_14 (by decide) ?_
    cases h
    exact mt_i hC hr hlk K hP hS dX9_passes_42
set_option maxHeartbeats 4000000 in
set_option maxRecDepth 100000 in
theorem ct_X9_isBottle (l : Launch) {w : mc_w} {I : Nat → Nat → Int32} {R : Nat → Nat → Option Nat} {v1 : Int32} {rz : Int32} (h : mi_X9_isBottle I v1 = some rz) : Met l yX9_isBottle (Cond.code yX9_isBottle cX9_isBottle 2 (some .boolean) :: mc_big) ({ frames := 1, cells := 0, slots := 0, locals := 22 } : Room) (va_Pc [.ref (w.2.2.1 0), .int v1] (mc_B mr_k 3 w I R)) (mc_Q (some (.int rz)) (fun t => mc_B mr_k 3 w I R t ∧ ¬ (rz ≠ 0 ∧ rz ≠ 1)) (mc_A 3 w)) 0 0 (mc_A 3 w) := by
  refine Met.ofW (cc := cX9_isBottle) (maxL := 2) (ret := (some .boolean)) (by decide) rfl ?_
  intro p e s m args below meth c s₁ B hml hv
  obtain ⟨rfl, hP, K⟩ := hv
  have hown : s.vm.findClass RX9 = some m.cls := findClass_of_methodNamed B.named
  have C : CallFix p m c cX9_isBottle 2 s _ mc_big RX9 := ⟨B.exec, B.bytes, hml, hown, fun w hw => atoms_spec B.pre w (List.mem_cons_of_mem _ hw)⟩
  have hx := C.1
  have hb := C.2.1
  have hC := And.intro C.1 C.2.1
  have hr := B.returns
  have hlk := B.notSynchronized
  have hS : va_S (mc_A 3 w) s.heap s.heap [] := va_S.rf
  have hl := lv_entry ([.ref (w.2.2.1 0), .int v1]) (n := 2) (Nat.le_of_ble_eq_true rfl)
  rw [lg_entry_eq]
  generalize (lg_sl ([.ref (w.2.2.1 0), .int v1]) ++ List.replicate (2 - (lg_sl ([.ref (w.2.2.1 0), .int v1])).length) Slot.unset).toArray = ls at hl ⊢
  have hl : lv_has ls 2 [(0, .ref (w.2.2.1 0)), (1, .int v1)] := hl
  unfold mi_X9_isBottle at h
  refine lv_iload_n hx hb dX9_isBottle_0 rfl (lv_at hl 1 rfl) ?_
  refine lv_iconst (v := 0) hx hb dX9_isBottle_1 (by decide) ?_
  refine lv_aload_n hx hb dX9_isBottle_2 rfl (lv_at hl 0 rfl) ?_
  refine mf_X9_7 C K hP kr_0 dX9_isBottle_3 ?_
  refine lv_iconst (v := 4) hx hb dX9_isBottle_6 (by decide) ?_
  obtain ⟨g1, h⟩ := mc_gd h
  refine ma_l16 hC K hP kr_1 g1 dX9_isBottle_7 ?_
  refine lv_iconst (v := 1) hx hb dX9_isBottle_8 (by decide) ?_
  refine lv_isub hx hb dX9_isBottle_9 ?_
  refine mg_Sz (As := [.int v1, .int 0, .int ((I 1 (4 : Int32).toNatClampNeg) - 1)]) (rest := []) (ct_X9_in l (w := w) (I := I) (R := R) rfl) C K hP hS hl.1 ml_X9_81 wy_X9_in wd_X9_in rfl rfl rfl ⟨Nat.le_of_ble_eq_true rfl, Nat.le_of_ble_eq_true rfl⟩ (Nat.le_of_ble_eq_true rfl) ⟨Nat.zero_le _, Nat.zero_le _⟩ dX9_isBottle_10 (fun H locs hP z3 hS => ?_)
  cases h
  exact mt_zX hC hr hlk K hP hS (mc_nz z3).1 z3 dX9_isBottle_13
set_option maxHeartbeats 4000000 in
set_option maxRecDepth 100000 in
theorem bk_X9_takes_B41 {p : Program} {l : Launch} {e : Env} {s : State} {m : MethodId} {args : Array Value} {below : List Frame} {meth : Method} {c : Code} (C : CallFix p m c cX9_takes 3 s args mc_big RX9) (hr : meth.sig.returnType = (some .int)) (hlk : meth.locks = false) {w : mc_w} (K : mc_K mr_k 3 w s) {R : Nat → Nat → Option Nat} {F : Nat} {Iz : Nat → Nat → Int32} {rz : Int32} {k41 : (Nat → Nat → Int32) → Int32 → (Option ((Nat → Nat → Int32) × Int32))} (hk41 : ∀ (I : Nat → Nat → Int32) (v2 : Int32), k41 I v2 = some (Iz, rz) → ∀ {H : Heap} {locs : List Loc} {ls : Array Slot}, mc_P mr_k 3 w I R H → va_S (mc_A 3 w) s.heap H locs → lv_has ls 3 [(0, .ref (w.2.2.1 0)), (2, .int v2)] → W p l e ({ frames := 2, cells := 0, slots := 0, locals := 43 } : Room) s m args below meth c H locs 0 0 (MQ below (mc_Q (some (.int rz)) (mc_B mr_k 3 w Iz R) (mc_A 3 w)) args s 0 0 (mc_A 3 w)) (F0 m 41 ls [])) : ∀ (I : Nat → Nat → Int32) (v2 : Int32), mi_X9_takes_B41 k41 F I v2 = some (Iz, rz) → ∀ {H : Heap} {locs : List Loc} {ls : Array Slot}, mc_P mr_k 3 w I R H → va_S (mc_A 3 w) s.heap H locs → lv_has ls 3 [(0, .ref (w.2.2.1 0)), (2, .int v2)] → W p l e ({ frames := 2, cells := 0, slots := 0, locals := 43 } : Room) s m args below meth c H locs 0 0 (MQ below (mc_Q (some (.int rz)) (mc_B mr_k 3 w Iz R) (mc_A 3 w)) args s 0 0 (mc_A 3 w)) (F0 m 41 ls []) := by
  intro I v2 h  H locs ls hP hS hl
  have hx := C.1
  have hb := C.2.1
  have hC := And.intro C.1 C.2.1
  unfold mi_X9_takes_B41 at h
  refine lv_iload_n hx hb dX9_takes_41 rfl (lv_at hl 1 rfl) ?_
  refine lv_iconst (v := 0) hx hb dX9_takes_42 (by decide) ?_
  refine lv_aload_n hx hb dX9_takes_43 rfl (lv_at hl 0 rfl) ?_
  refine mf_X9_7 C K hP kr_0 dX9_takes_44 ?_
  refine lv_iconst (v := 4) hx hb dX9_takes_47 (by decide) ?_
  obtain ⟨g14, h⟩ := mc_gd h
  refine ma_l16 hC K hP kr_1 g14 dX9_takes_48 ?_
  refine mg_Si (As := [.int 0, .int (I 1 (4 : Int32).toNatClampNeg)]) (rest := [.int v2]) (ct_X9_bottleAt l (w := w) (I := I) (R := R) rfl) C K hP hS hl.1 ml_X9_34 wy_X9_bottleAt wd_X9_bottleAt rfl rfl rfl ⟨Nat.le_of_ble_eq_true rfl, Nat.le_of_ble_eq_true rfl⟩ (Nat.le_of_ble_eq_true rfl) ⟨Nat.zero_le _, Nat.zero_le _⟩ dX9_takes_49 (fun H locs hP hS => ?_)
  refine lv_icmp_ge (tgt := 76) hx hb dX9_takes_52 (by decide) (fun c16 => ?_) (fun c16 => ?_)
  · replace h := mc_it h c16
    refine lv_aload_n hx hb dX9_takes_76 rfl (lv_at hl 0 rfl) ?_
    refine mf_X9_7 C K hP kr_0 dX9_takes_77 ?_
    refine lv_iconst (v := 4) hx hb dX9_takes_80 (by decide) ?_
    obtain ⟨g17, h⟩ := mc_gd h
    refine ma_l16 hC K hP kr_1 g17 dX9_takes_81 ?_
    cases h
    exact mt_i hC hr hlk K hP hS dX9_takes_82
  · replace h := mc_ie h c16
    refine lv_aload_n hx hb dX9_takes_55 rfl (lv_at hl 0 rfl) ?_
    refine mf_X9_7 C K hP kr_0 dX9_takes_56 ?_
    refine lv_iload_n hx hb dX9_takes_59 rfl (lv_at hl 1 rfl) ?_
    refine lv_aload_n hx hb dX9_takes_60 rfl (lv_at hl 0 rfl) ?_
    refine mf_X9_7 C K hP kr_0 dX9_takes_61 ?_
    refine lv_iload_n hx hb dX9_takes_64 rfl (lv_at hl 1 rfl) ?_
    refine lv_bipush (v := 12) hx hb dX9_takes_65 (by decide) ?_
    refine lv_iadd hx hb dX9_takes_67 ?_
    obtain ⟨g18, h⟩ := mc_gd h
    refine ma_l16 hC K hP kr_1 g18 dX9_takes_68 ?_
    obtain ⟨g19, h⟩ := mc_gd h
    obtain ⟨I20, eI20, h⟩ := mc_bn_e h
    refine ma_s16 hC K hP hS kr_1 g19 eI20 dX9_takes_69 (fun H locs hP hS => ?_)
    obtain ⟨x21, ex21, h⟩ := mc_bn_e h
    refine lv_iinc (v := x21) (lv' := [(2, .int x21), (0, .ref (w.2.2.1 0))]) hx hb dX9_takes_70 hl (k := 1) rfl (by rw [ex21]; rfl) (by decide) rfl (fun ls hl => ?_)
    refine lv_goto (tgt := 41) hx hb dX9_takes_73 (by decide) ?_
    exact hk41 I20 x21 h  hP hS (lv_sub hl [1, 0] rfl)
theorem bk_X9_takes_L41 {p : Program} {l : Launch} {e : Env} {s : State} {m : MethodId} {args : Array Value} {below : List Frame} {meth : Method} {c : Code} (C : CallFix p m c cX9_takes 3 s args mc_big RX9) (hr : meth.sig.returnType = (some .int)) (hlk : meth.locks = false) {w : mc_w} (K : mc_K mr_k 3 w s) {R : Nat → Nat → Option Nat} {F : Nat} {Iz : Nat → Nat → Int32} {rz : Int32} : ∀ n : Nat, ∀ (I : Nat → Nat → Int32) (v2 : Int32), mi_X9_takes_L41 F n I v2 = some (Iz, rz) → ∀ {H : Heap} {locs : List Loc} {ls : Array Slot}, mc_P mr_k 3 w I R H → va_S (mc_A 3 w) s.heap H locs → lv_has ls 3 [(0, .ref (w.2.2.1 0)), (2, .int v2)] → W p l e ({ frames := 2, cells := 0, slots := 0, locals := 43 } : Room) s m args below meth c H locs 0 0 (MQ below (mc_Q (some (.int rz)) (mc_B mr_k 3 w Iz R) (mc_A 3 w)) args s 0 0 (mc_A 3 w)) (F0 m 41 ls []) := by
  intro n
  induction n with
  | zero =>
    intro I v2 h
    cases h
  | succ n ih =>
    intro I v2 h
    exact bk_X9_takes_B41 C hr hlk K  ih I v2 h
set_option maxHeartbeats 4000000 in
set_option maxRecDepth 100000 in
theorem ct_X9_takes (l : Launch) {w : mc_w} {I : Nat → Nat → Int32} {R : Nat → Nat → Option Nat} {F : Nat} {v1 : Int32} {Iz : Nat → Nat → Int32} {rz : Int32} (h : mi_X9_takes F I v1 = some (Iz, rz)) : Met l yX9_takes (Cond.code yX9_takes cX9_takes 3 (some .int) :: mc_big) ({ frames := 2, cells := 0, slots := 0, locals := 43 } : Room) (va_Pc [.ref (w.2.2.1 0), .int v1] (mc_B mr_k 3 w I R)) (mc_Q (some (.int rz)) (mc_B mr_k 3 w Iz R) (mc_A 3 w)) 0 0 (mc_A 3 w) := by
  refine Met.ofW (cc := cX9_takes) (maxL := 3) (ret := (some .int)) (by decide) rfl ?_
  intro p e s m args below meth c s₁ B hml hv
  obtain ⟨rfl, hP, K⟩ := hv
  have hown : s.vm.findClass RX9 = some m.cls := findClass_of_methodNamed B.named
  have C : CallFix p m c cX9_takes 3 s _ mc_big RX9 := ⟨B.exec, B.bytes, hml, hown, fun w hw => atoms_spec B.pre w (List.mem_cons_of_mem _ hw)⟩
  have hx := C.1
  have hb := C.2.1
  have hC := And.intro C.1 C.2.1
  have hr := B.returns
  have hlk := B.notSynchronized
  have hS : va_S (mc_A 3 w) s.heap s.heap [] := va_S.rf
  have hl := lv_entry ([.ref (w.2.2.1 0), .int v1]) (n := 3) (Nat.le_of_ble_eq_true rfl)
  rw [lg_entry_eq]
  generalize (lg_sl ([.ref (w.2.2.1 0), .int v1]) ++ List.replicate (3 - (lg_sl ([.ref (w.2.2.1 0), .int v1])).length) Slot.unset).toArray = ls at hl ⊢
  have hl : lv_has ls 3 [(0, .ref (w.2.2.1 0)), (1, .int v1)] := hl
  unfold mi_X9_takes at h
  refine lv_aload_n hx hb dX9_takes_0 rfl (lv_at hl 0 rfl) ?_
  refine lv_iload_n hx hb dX9_takes_1 rfl (lv_at hl 1 rfl) ?_
  obtain ⟨r1, e2, h⟩ := mc_ob_e h
  refine mg_Vz (As := [.int v1]) (rest := []) (ct_X9_isBottle l (w := w) (I := I) (R := R) e2) C K hP hS hl.1 kr_0 (by decide) rfl rfl ml_X9_95 wy_X9_isBottle wd_X9_isBottle rfl rfl rfl ⟨Nat.le_of_ble_eq_true rfl, Nat.le_of_ble_eq_true rfl⟩ (Nat.le_of_ble_eq_true rfl) ⟨Nat.zero_le _, Nat.zero_le _⟩ dX9_takes_2 (fun H locs hP z3 hS => ?_)
  refine lv_if_ne (tgt := 12) hx hb dX9_takes_5 (by decide) (fun c4 => ?_) (fun c4 => ?_)
  · replace h := mc_ie h c4
    refine lv_aload_n hx hb dX9_takes_12 rfl (lv_at hl 0 rfl) ?_
    refine lv_iconst (v := 0) hx hb dX9_takes_13 (by decide) ?_
    refine lv_iload_n hx hb dX9_takes_14 rfl (lv_at hl 1 rfl) ?_
    obtain ⟨r5, e6, h⟩ := mc_ob_e h
    refine mg_Vz (As := [.int 0, .int v1]) (rest := []) (ct_X9_isInWater l (w := w) (I := I) (R := R) e6) C K hP hS hl.1 kr_0 (by decide) rfl rfl ml_X9_38 wy_X9_isInWater wd_X9_isInWater rfl rfl rfl ⟨Nat.le_of_ble_eq_true rfl, Nat.le_of_ble_eq_true rfl⟩ (Nat.le_of_ble_eq_true rfl) ⟨Nat.zero_le _, Nat.zero_le _⟩ dX9_takes_15 (fun H locs hP z7 hS => ?_)
    refine lv_if_eq (tgt := 25) hx hb dX9_takes_18 (by decide) (fun c8 => ?_) (fun c8 => ?_)
    · replace h := mc_it h c8
      refine lv_aload_n hx hb dX9_takes_25 rfl (lv_at hl 0 rfl) ?_
      refine mf_X9_7 C K hP kr_0 dX9_takes_26 ?_
      refine lv_iconst (v := 4) hx hb dX9_takes_29 (by decide) ?_
      refine lv_dup2_11 hx hb dX9_takes_30 rfl rfl ?_
      obtain ⟨g9, h⟩ := mc_gd h
      refine ma_l16 hC K hP kr_1 g9 dX9_takes_31 ?_
      refine lv_iconst (v := 1) hx hb dX9_takes_32 (by decide) ?_
      refine lv_isub hx hb dX9_takes_33 ?_
      obtain ⟨g10, h⟩ := mc_gd h
      obtain ⟨I11, eI11, h⟩ := mc_bn_e h
      refine ma_s16 hC K hP hS kr_1 g10 eI11 dX9_takes_34 (fun H locs hP hS => ?_)
      refine lv_iconst (v := 0) hx hb dX9_takes_35 (by decide) ?_
      refine lv_iload_n hx hb dX9_takes_36 rfl (lv_at hl 1 rfl) ?_
      refine mg_Si (As := [.int 0, .int v1]) (rest := []) (ct_X9_bottleAt l (w := w) (I := I11) (R := R) rfl) C K hP hS hl.1 ml_X9_34 wy_X9_bottleAt wd_X9_bottleAt rfl rfl rfl ⟨Nat.le_of_ble_eq_true rfl, Nat.le_of_ble_eq_true rfl⟩ (Nat.le_of_ble_eq_true rfl) ⟨Nat.zero_le _, Nat.zero_le _⟩ dX9_takes_37 (fun H locs hP hS => ?_)
      obtain ⟨x13, ex13, h⟩ := mc_bn_e h
      refine mv_top ex13 ?_
      refine lv_istore_n (i := 2) (lv' := [(2, .int x13), (0, .ref (w.2.2.1 0)), (1, .int v1)]) hx hb dX9_takes_40 rfl hl (by decide) rfl (fun ls hl => ?_)
      exact bk_X9_takes_L41 C hr hlk K  F I11 x13 h  hP hS (lv_sub hl [1, 0] rfl)
    · replace h := mc_ie h c8
      refine lv_sipush (v := (-1004)) hx hb dX9_takes_21 (by decide) ?_
      cases h
      exact mt_i hC hr hlk K hP hS dX9_takes_24
  · replace h := mc_it h c4
    refine lv_sipush (v := (-1001)) hx hb dX9_takes_8 (by decide) ?_
    cases h
    exact mt_i hC hr hlk K hP hS dX9_takes_11

set_option maxHeartbeats 4000000 in
set_option maxRecDepth 100000 in
theorem bk_X5_secondsOnWay_B13 {p : Program} {l : Launch} {e : Env} {s : State} {m : MethodId} {args : Array Value} {below : List Frame} {meth : Method} {c : Code} (C : CallFix p m c cX5_secondsOnWay 6 s args mc_big RX5) (hr : meth.sig.returnType = (some .int)) (hlk : meth.locks = false) {w : mc_w} (K : mc_K mc_k 152 w s) {I : Nat → Nat → Int32} {R : Nat → Nat → Option Nat} {F : Nat} {rz : Int32} {k13 : (Nat → Nat → Int32) → (Nat → Nat → Option Nat) → Nat → Int32 → Int32 → Int32 → Int32 → Option (Int32)} (hk13 : ∀ (v0 : Nat) (v1 : Int32) (v2 : Int32) (v3 : Int32) (v4 : Int32), k13 I R v0 v1 v2 v3 v4 = some rz → (mc_k v0 = 5) → ∀ {H : Heap} {locs : List Loc} {ls : Array Slot}, mc_P mc_k 152 w I R H → va_S (mc_A 152 w) s.heap H locs → lv_has ls 6 [(0, .ref (w.2.2.1 v0)), (1, .int v1), (2, .int v2), (3, .int v3), (4, .int v4)] → W p l e ({ frames := 3, cells := 0, slots := 0, locals := 61 } : Room) s m args below meth c H locs 0 0 (MQ below (mc_Q (some (.int rz)) (mc_B mc_k 152 w I R) (mc_A 152 w)) args s 0 0 (mc_A 152 w)) (F0 m 13 ls [])) : ∀ (v0 : Nat) (v1 : Int32) (v2 : Int32) (v3 : Int32) (v4 : Int32), mi_X5_secondsOnWay_B13 k13 F I R v0 v1 v2 v3 v4 = some rz → (mc_k v0 = 5) → ∀ {H : Heap} {locs : List Loc} {ls : Array Slot}, mc_P mc_k 152 w I R H → va_S (mc_A 152 w) s.heap H locs → lv_has ls 6 [(0, .ref (w.2.2.1 v0)), (1, .int v1), (2, .int v2), (3, .int v3), (4, .int v4)] → W p l e ({ frames := 3, cells := 0, slots := 0, locals := 61 } : Room) s m args below meth c H locs 0 0 (MQ below (mc_Q (some (.int rz)) (mc_B mc_k 152 w I R) (mc_A 152 w)) args s 0 0 (mc_A 152 w)) (F0 m 13 ls []) := by
  intro v0 v1 v2 v3 v4 h kv0 H locs ls hP hS hl
  have hx := C.1
  have hb := C.2.1
  have hC := And.intro C.1 C.2.1
  unfold mi_X5_secondsOnWay_B13 at h
  refine lv_iload hx hb dX5_secondsOnWay_13 (lv_at hl 4 rfl) ?_
  refine lv_aload_n hx hb dX5_secondsOnWay_15 rfl (lv_at hl 0 rfl) ?_
  refine mf_X5_56 C K hP kv0 dX5_secondsOnWay_16 ?_
  refine lv_icmp_ge (tgt := 56) hx hb dX5_secondsOnWay_19 (by decide) (fun c3 => ?_) (fun c3 => ?_)
  · replace h := mc_it h c3
    refine lv_iload_n hx hb dX5_secondsOnWay_56 rfl (lv_at hl 2 rfl) ?_
    refine lv_iconst (v := 1) hx hb dX5_secondsOnWay_57 (by decide) ?_
    refine lv_icmp_ge (tgt := 65) hx hb dX5_secondsOnWay_58 (by decide) (fun c4 => ?_) (fun c4 => ?_)
    · replace h := mc_it h c4
      refine lv_iconst (v := 1) hx hb dX5_secondsOnWay_65 (by decide) ?_
      refine lv_iload_n hx hb dX5_secondsOnWay_66 rfl (lv_at hl 1 rfl) ?_
      refine lv_iload_n hx hb dX5_secondsOnWay_67 rfl (lv_at hl 3 rfl) ?_
      refine lv_isub hx hb dX5_secondsOnWay_68 ?_
      refine lv_iload_n hx hb dX5_secondsOnWay_69 rfl (lv_at hl 2 rfl) ?_
      refine lv_iadd hx hb dX5_secondsOnWay_70 ?_
      refine lv_iconst (v := 1) hx hb dX5_secondsOnWay_71 (by decide) ?_
      refine lv_isub hx hb dX5_secondsOnWay_72 ?_
      refine lv_iload_n hx hb dX5_secondsOnWay_73 rfl (lv_at hl 2 rfl) ?_
      obtain ⟨g5, h⟩ := mc_gd h
      refine lv_idiv hx hb dX5_secondsOnWay_74 g5 ?_
      refine mm_max C hl.1 ml_X5_189 (Nat.le_of_ble_eq_true rfl) (Nat.le_of_ble_eq_true rfl) ⟨Nat.zero_le _, Nat.zero_le _⟩ dX5_secondsOnWay_75 ?_
      cases h
      exact mt_i hC hr hlk K hP hS dX5_secondsOnWay_78
    · replace h := mc_ie h c4
      refine lv_iconst (v := 1) hx hb dX5_secondsOnWay_61 (by decide) ?_
      refine lv_goto (tgt := 78) hx hb dX5_secondsOnWay_62 (by decide) ?_
      cases h
      exact mt_i hC hr hlk K hP hS dX5_secondsOnWay_78
  · replace h := mc_ie h c3
    refine lv_aload_n hx hb dX5_secondsOnWay_22 rfl (lv_at hl 0 rfl) ?_
    refine lv_iload hx hb dX5_secondsOnWay_23 (lv_at hl 4 rfl) ?_
    obtain ⟨r6, e7, h⟩ := mc_ob_e h
    refine mg_Vr (As := [.int v4]) (rest := []) (ct_X5_bottleAt l (w := w) (I := I) (R := R) kv0 e7) C K hP hS hl.1 kv0 (by decide) rfl rfl ml_X5_62 wy_X5_bottleAt wd_X5_bottleAt rfl rfl rfl ⟨Nat.le_of_ble_eq_true rfl, Nat.le_of_ble_eq_true rfl⟩ (Nat.le_of_ble_eq_true rfl) ⟨Nat.zero_le _, Nat.zero_le _⟩ dX5_secondsOnWay_25 (fun H locs hP tr6 hS => ?_)
    refine mv_astore (i := 5) (lv' := [(5, va_re w.2.2.1 r6), (0, .ref (w.2.2.1 v0)), (1, .int v1), (2, .int v2), (3, .int v3), (4, .int v4)]) hC dX5_secondsOnWay_28 hl (by decide) rfl (fun ls hl => ?_)
    refine mv_aload hC dX5_secondsOnWay_30 (lv_at hl 0 rfl) ?_
    rcases r6 with _ | b8
    · replace h := mc_om_n h
      refine lv_ifnullN (tgt := 50) hx hb dX5_secondsOnWay_32 (by decide) ?_
      have hl : lv_has ls 6 [(5, va_re w.2.2.1 none), (0, .ref (w.2.2.1 v0)), (1, .int v1), (2, .int v2), (3, .int v3), (4, .int v4)] := hl
      obtain ⟨x9, ex9, h⟩ := mc_bn_e h
      refine lv_iinc (v := x9) (lv' := [(4, .int x9), (5, va_re w.2.2.1 none), (0, .ref (w.2.2.1 v0)), (1, .int v1), (2, .int v2), (3, .int v3)]) hx hb dX5_secondsOnWay_50 hl (k := 5) rfl (by rw [ex9]; rfl) (by decide) rfl (fun ls hl => ?_)
      refine lv_goto (tgt := 13) hx hb dX5_secondsOnWay_53 (by decide) ?_
      exact hk13 v0 v1 v2 v3 x9 h kv0 hP hS (lv_sub hl [2, 3, 4, 5, 0] rfl)
    · replace h := mc_om_s h
      have kb8 := tr6 b8 rfl
      refine lv_ifnull hx hb dX5_secondsOnWay_32 ?_
      have hl : lv_has ls 6 [(5, .ref (w.2.2.1 b8)), (0, .ref (w.2.2.1 v0)), (1, .int v1), (2, .int v2), (3, .int v3), (4, .int v4)] := hl
      refine lv_aload hx hb dX5_secondsOnWay_35 (lv_at hl 0 rfl) ?_
      refine mf_X5_95 C K hP kb8 dX5_secondsOnWay_37 ?_
      refine lv_iload_n hx hb dX5_secondsOnWay_40 rfl (lv_at hl 2 rfl) ?_
      refine lv_icmp_ge (tgt := 50) hx hb dX5_secondsOnWay_41 (by decide) (fun c10 => ?_) (fun c10 => ?_)
      · replace h := mc_it h c10
        obtain ⟨x11, ex11, h⟩ := mc_bn_e h
        refine lv_iinc (v := x11) (lv' := [(4, .int x11), (5, .ref (w.2.2.1 b8)), (0, .ref (w.2.2.1 v0)), (1, .int v1), (2, .int v2), (3, .int v3)]) hx hb dX5_secondsOnWay_50 hl (k := 5) rfl (by rw [ex11]; rfl) (by decide) rfl (fun ls hl => ?_)
        refine lv_goto (tgt := 13) hx hb dX5_secondsOnWay_53 (by decide) ?_
        exact hk13 v0 v1 v2 v3 x11 h kv0 hP hS (lv_sub hl [2, 3, 4, 5, 0] rfl)
      · replace h := mc_ie h c10
        refine lv_aload hx hb dX5_secondsOnWay_44 (lv_at hl 0 rfl) ?_
        refine mf_X5_95 C K hP kb8 dX5_secondsOnWay_46 ?_
        obtain ⟨x12, ex12, h⟩ := mc_bn_e h
        refine mv_top ex12 ?_
        refine lv_istore_n (i := 3) (lv' := [(3, .int x12), (5, .ref (w.2.2.1 b8)), (0, .ref (w.2.2.1 v0)), (1, .int v1), (2, .int v2), (4, .int v4)]) hx hb dX5_secondsOnWay_49 rfl hl (by decide) rfl (fun ls hl => ?_)
        obtain ⟨x13, ex13, h⟩ := mc_bn_e h
        refine lv_iinc (v := x13) (lv' := [(4, .int x13), (3, .int x12), (5, .ref (w.2.2.1 b8)), (0, .ref (w.2.2.1 v0)), (1, .int v1), (2, .int v2)]) hx hb dX5_secondsOnWay_50 hl (k := 5) rfl (by rw [ex13]; rfl) (by decide) rfl (fun ls hl => ?_)
        refine lv_goto (tgt := 13) hx hb dX5_secondsOnWay_53 (by decide) ?_
        exact hk13 v0 v1 v2 x12 x13 h kv0 hP hS (lv_sub hl [3, 4, 5, 1, 0] rfl)
theorem bk_X5_secondsOnWay_L13 {p : Program} {l : Launch} {e : Env} {s : State} {m : MethodId} {args : Array Value} {below : List Frame} {meth : Method} {c : Code} (C : CallFix p m c cX5_secondsOnWay 6 s args mc_big RX5) (hr : meth.sig.returnType = (some .int)) (hlk : meth.locks = false) {w : mc_w} (K : mc_K mc_k 152 w s) {I : Nat → Nat → Int32} {R : Nat → Nat → Option Nat} {F : Nat} {rz : Int32} : ∀ n : Nat, ∀ (v0 : Nat) (v1 : Int32) (v2 : Int32) (v3 : Int32) (v4 : Int32), mi_X5_secondsOnWay_L13 F n I R v0 v1 v2 v3 v4 = some rz → (mc_k v0 = 5) → ∀ {H : Heap} {locs : List Loc} {ls : Array Slot}, mc_P mc_k 152 w I R H → va_S (mc_A 152 w) s.heap H locs → lv_has ls 6 [(0, .ref (w.2.2.1 v0)), (1, .int v1), (2, .int v2), (3, .int v3), (4, .int v4)] → W p l e ({ frames := 3, cells := 0, slots := 0, locals := 61 } : Room) s m args below meth c H locs 0 0 (MQ below (mc_Q (some (.int rz)) (mc_B mc_k 152 w I R) (mc_A 152 w)) args s 0 0 (mc_A 152 w)) (F0 m 13 ls []) := by
  intro n
  induction n with
  | zero =>
    intro v0 v1 v2 v3 v4 h
    cases h
  | succ n ih =>
    intro v0 v1 v2 v3 v4 h
    exact bk_X5_secondsOnWay_B13 C hr hlk K  ih v0 v1 v2 v3 v4 h
set_option maxHeartbeats 4000000 in
set_option maxRecDepth 100000 in
theorem ct_X5_secondsOnWay (l : Launch) {w : mc_w} {I : Nat → Nat → Int32} {R : Nat → Nat → Option Nat} {F : Nat} {v0 : Nat} {v1 : Int32} (kv0 : mc_k v0 = 5) {rz : Int32} (h : mi_X5_secondsOnWay F I R v0 v1 = some rz) : Met l yX5_secondsOnWay (Cond.code yX5_secondsOnWay cX5_secondsOnWay 6 (some .int) :: mc_big) ({ frames := 3, cells := 0, slots := 0, locals := 61 } : Room) (va_Pc [.ref (w.2.2.1 v0), .int v1] (mc_B mc_k 152 w I R)) (mc_Q (some (.int rz)) (mc_B mc_k 152 w I R) (mc_A 152 w)) 0 0 (mc_A 152 w) := by
  refine Met.ofW (cc := cX5_secondsOnWay) (maxL := 6) (ret := (some .int)) (by decide) rfl ?_
  intro p e s m args below meth c s₁ B hml hv
  obtain ⟨rfl, hP, K⟩ := hv
  have hown : s.vm.findClass RX5 = some m.cls := findClass_of_methodNamed B.named
  have C : CallFix p m c cX5_secondsOnWay 6 s _ mc_big RX5 := ⟨B.exec, B.bytes, hml, hown, fun w hw => atoms_spec B.pre w (List.mem_cons_of_mem _ hw)⟩
  have hx := C.1
  have hb := C.2.1
  have hC := And.intro C.1 C.2.1
  have hr := B.returns
  have hlk := B.notSynchronized
  have hS : va_S (mc_A 152 w) s.heap s.heap [] := va_S.rf
  have hl := lv_entry ([.ref (w.2.2.1 v0), .int v1]) (n := 6) (Nat.le_of_ble_eq_true rfl)
  rw [lg_entry_eq]
  generalize (lg_sl ([.ref (w.2.2.1 v0), .int v1]) ++ List.replicate (6 - (lg_sl ([.ref (w.2.2.1 v0), .int v1])).length) Slot.unset).toArray = ls at hl ⊢
  have hl : lv_has ls 6 [(0, .ref (w.2.2.1 v0)), (1, .int v1)] := hl
  unfold mi_X5_secondsOnWay at h
  refine lv_aload_n hx hb dX5_secondsOnWay_0 rfl (lv_at hl 0 rfl) ?_
  refine mf_X5_12 C K hP kv0 dX5_secondsOnWay_1 ?_
  refine mg_Vi (As := []) (rest := []) (ct_X1_step l (w := w) (I := I) (R := R) (kk_5_1 kv0) rfl) C K hP hS hl.1 (kk_5_1 kv0) (by decide) rfl rfl ml_X5_183 wy_X1_step wd_X1_step rfl rfl rfl ⟨Nat.le_of_ble_eq_true rfl, Nat.le_of_ble_eq_true rfl⟩ (Nat.le_of_ble_eq_true rfl) ⟨Nat.zero_le _, Nat.zero_le _⟩ dX5_secondsOnWay_4 (fun H locs hP hS => ?_)
  obtain ⟨x2, ex2, h⟩ := mc_bn_e h
  refine mv_top ex2 ?_
  refine lv_istore_n (i := 2) (lv' := [(2, .int x2), (0, .ref (w.2.2.1 v0)), (1, .int v1)]) hx hb dX5_secondsOnWay_7 rfl hl (by decide) rfl (fun ls hl => ?_)
  refine lv_iconst (v := 0) hx hb dX5_secondsOnWay_8 (by decide) ?_
  refine lv_istore_n (i := 3) (lv' := [(3, .int 0), (2, .int x2), (0, .ref (w.2.2.1 v0)), (1, .int v1)]) hx hb dX5_secondsOnWay_9 rfl hl (by decide) rfl (fun ls hl => ?_)
  refine lv_iconst (v := 0) hx hb dX5_secondsOnWay_10 (by decide) ?_
  refine lv_istore (i := 4) (lv' := [(4, .int 0), (3, .int 0), (2, .int x2), (0, .ref (w.2.2.1 v0)), (1, .int v1)]) hx hb dX5_secondsOnWay_11 hl (by decide) rfl (fun ls hl => ?_)
  exact bk_X5_secondsOnWay_L13 C hr hlk K  F v0 v1 x2 0 0 h kv0 hP hS (lv_sub hl [3, 4, 2, 1, 0] rfl)
set_option maxHeartbeats 4000000 in
set_option maxRecDepth 100000 in
theorem bk_X5_skipQuietSeconds_B14 {p : Program} {l : Launch} {e : Env} {s : State} {m : MethodId} {args : Array Value} {below : List Frame} {meth : Method} {c : Code} (C : CallFix p m c cX5_skipQuietSeconds 4 s args mc_big RX5) (hr : meth.sig.returnType = none) (hlk : meth.locks = false) {w : mc_w} (K : mc_K mc_k 152 w s) {R : Nat → Nat → Option Nat} {F : Nat} {Iz : Nat → Nat → Int32} {k14 : (Nat → Nat → Int32) → (Nat → Nat → Option Nat) → Nat → Int32 → Int32 → (Option ((Nat → Nat → Int32)))} (hk14 : ∀ (I : Nat → Nat → Int32) (v0 : Nat) (v2 : Int32) (v3 : Int32), k14 I R v0 v2 v3 = some Iz → (mc_k v0 = 5) → ∀ {H : Heap} {locs : List Loc} {ls : Array Slot}, mc_P mc_k 152 w I R H → va_S (mc_A 152 w) s.heap H locs → lv_has ls 4 [(0, .ref (w.2.2.1 v0)), (2, .int v2), (3, .int v3)] → W p l e ({ frames := 4, cells := 0, slots := 0, locals := 86 } : Room) s m args below meth c H locs 0 0 (MQ below (mc_Q none (mc_B mc_k 152 w Iz R) (mc_A 152 w)) args s 0 0 (mc_A 152 w)) (F0 m 14 ls [])) : ∀ (I : Nat → Nat → Int32) (v0 : Nat) (v2 : Int32) (v3 : Int32), mi_X5_skipQuietSeconds_B14 k14 F I R v0 v2 v3 = some Iz → (mc_k v0 = 5) → ∀ {H : Heap} {locs : List Loc} {ls : Array Slot}, mc_P mc_k 152 w I R H → va_S (mc_A 152 w) s.heap H locs → lv_has ls 4 [(0, .ref (w.2.2.1 v0)), (2, .int v2), (3, .int v3)] → W p l e ({ frames := 4, cells := 0, slots := 0, locals := 86 } : Room) s m args below meth c H locs 0 0 (MQ below (mc_Q none (mc_B mc_k 152 w Iz R) (mc_A 152 w)) args s 0 0 (mc_A 152 w)) (F0 m 14 ls []) := by
  intro I v0 v2 v3 h kv0 H locs ls hP hS hl
  have hx := C.1
  have hb := C.2.1
  have hC := And.intro C.1 C.2.1
  unfold mi_X5_skipQuietSeconds_B14 at h
  refine lv_iload_n hx hb dX5_skipQuietSeconds_14 rfl (lv_at hl 2 rfl) ?_
  refine lv_aload_n hx hb dX5_skipQuietSeconds_15 rfl (lv_at hl 0 rfl) ?_
  refine mf_X5_28 C K hP kv0 dX5_skipQuietSeconds_16 ?_
  refine mf_X5_106 C K hP (kk_5_5 kv0) dX5_skipQuietSeconds_19 ?_
  refine lv_icmp_ge (tgt := 50) hx hb dX5_skipQuietSeconds_22 (by decide) (fun c5 => ?_) (fun c5 => ?_)
  · replace h := mc_it h c5
    refine lv_aload_n hx hb dX5_skipQuietSeconds_50 rfl (lv_at hl 0 rfl) ?_
    refine mf_X5_28 C K hP kv0 dX5_skipQuietSeconds_51 ?_
    refine lv_iload_n hx hb dX5_skipQuietSeconds_54 rfl (lv_at hl 1 rfl) ?_
    refine lv_aload_n hx hb dX5_skipQuietSeconds_55 rfl (lv_at hl 0 rfl) ?_
    refine mf_X5_12 C K hP kv0 dX5_skipQuietSeconds_56 ?_
    refine mg_Vi (As := []) (rest := [.int v2, .ref (w.2.2.1 (v0 + 5))]) (ct_X1_step l (w := w) (I := I) (R := R) (kk_5_1 kv0) rfl) C K hP hS hl.1 (kk_5_1 kv0) (by decide) rfl rfl ml_X5_183 wy_X1_step wd_X1_step rfl rfl rfl ⟨Nat.le_of_ble_eq_true rfl, Nat.le_of_ble_eq_true rfl⟩ (Nat.le_of_ble_eq_true rfl) ⟨Nat.zero_le _, Nat.zero_le _⟩ dX5_skipQuietSeconds_59 (fun H locs hP hS => ?_)
    refine lv_imul hx hb dX5_skipQuietSeconds_62 ?_
    obtain ⟨I7, e8, h⟩ := mc_ob_e h
    refine mg_Vv (As := [.int (v2 * (mi_X1_step I (v0 + 1)))]) (rest := []) (ct_X4_sinkAll l (w := w) (I := I) (R := R) (kk_5_5 kv0) e8) C K hP hS hl.1 (kk_5_5 kv0) (by decide) rfl rfl ml_X5_186 wy_X4_sinkAll wd_X4_sinkAll rfl rfl rfl ⟨Nat.le_of_ble_eq_true rfl, Nat.le_of_ble_eq_true rfl⟩ (Nat.le_of_ble_eq_true rfl) ⟨Nat.zero_le _, Nat.zero_le _⟩ dX5_skipQuietSeconds_63 (fun H locs hP hS => ?_)
    refine lv_aload_n hx hb dX5_skipQuietSeconds_66 rfl (lv_at hl 0 rfl) ?_
    refine lv_dup hx hb dX5_skipQuietSeconds_67 rfl ?_
    refine mf_X5_59 C K hP kv0 dX5_skipQuietSeconds_68 ?_
    refine lv_iload_n hx hb dX5_skipQuietSeconds_71 rfl (lv_at hl 1 rfl) ?_
    refine lv_iadd hx hb dX5_skipQuietSeconds_72 ?_
    obtain ⟨I9, eI9, h⟩ := mc_bn_e h
    refine mp_X5_59 C K hP hS kv0 eI9 dX5_skipQuietSeconds_73 (fun H locs hP hS => ?_)
    cases h
    exact mt_v hC hr hlk K hP hS dX5_skipQuietSeconds_76
  · replace h := mc_ie h c5
    refine lv_iload_n hx hb dX5_skipQuietSeconds_25 rfl (lv_at hl 1 rfl) ?_
    refine lv_aload_n hx hb dX5_skipQuietSeconds_26 rfl (lv_at hl 0 rfl) ?_
    refine lv_aload_n hx hb dX5_skipQuietSeconds_27 rfl (lv_at hl 0 rfl) ?_
    refine mf_X5_28 C K hP kv0 dX5_skipQuietSeconds_28 ?_
    refine lv_iload_n hx hb dX5_skipQuietSeconds_31 rfl (lv_at hl 2 rfl) ?_
    obtain ⟨r10, e11, h⟩ := mc_ob_e h
    refine mg_Vi (As := [.int v3]) (rest := [.ref (w.2.2.1 v0), .int v2]) (ct_X4_markAt l (w := w) (I := I) (R := R) (kk_5_5 kv0) e11) C K hP hS hl.1 (kk_5_5 kv0) (by decide) rfl rfl ml_X5_174 wy_X4_markAt wd_X4_markAt rfl rfl rfl ⟨Nat.le_of_ble_eq_true rfl, Nat.le_of_ble_eq_true rfl⟩ (Nat.le_of_ble_eq_true rfl) ⟨Nat.zero_le _, Nat.zero_le _⟩ dX5_skipQuietSeconds_32 (fun H locs hP hS => ?_)
    obtain ⟨r12, e13, h⟩ := mc_ob_e h
    refine mg_Vi (As := [.int r10]) (rest := [.int v2]) (ct_X5_secondsOnWay l (w := w) (I := I) (R := R) kv0 e13) C K hP hS hl.1 kv0 (by decide) rfl rfl ml_X5_177 wy_X5_secondsOnWay wd_X5_secondsOnWay rfl rfl rfl ⟨Nat.le_of_ble_eq_true rfl, Nat.le_of_ble_eq_true rfl⟩ (Nat.le_of_ble_eq_true rfl) ⟨Nat.zero_le _, Nat.zero_le _⟩ dX5_skipQuietSeconds_35 (fun H locs hP hS => ?_)
    refine lv_iconst (v := 1) hx hb dX5_skipQuietSeconds_38 (by decide) ?_
    refine lv_isub hx hb dX5_skipQuietSeconds_39 ?_
    refine mm_min C hl.1 ml_X5_180 (Nat.le_of_ble_eq_true rfl) (Nat.le_of_ble_eq_true rfl) ⟨Nat.zero_le _, Nat.zero_le _⟩ dX5_skipQuietSeconds_40 ?_
    obtain ⟨x14, ex14, h⟩ := mc_bn_e h
    refine mv_top ex14 ?_
    refine lv_istore_n (i := 2) (lv' := [(2, .int x14), (0, .ref (w.2.2.1 v0)), (3, .int v3)]) hx hb dX5_skipQuietSeconds_43 rfl hl (by decide) rfl (fun ls hl => ?_)
    obtain ⟨x15, ex15, h⟩ := mc_bn_e h
    refine lv_iinc (v := x15) (lv' := [(3, .int x15), (2, .int x14), (0, .ref (w.2.2.1 v0))]) hx hb dX5_skipQuietSeconds_44 hl (k := 2) rfl (by rw [ex15]; rfl) (by decide) rfl (fun ls hl => ?_)
    refine lv_goto (tgt := 14) hx hb dX5_skipQuietSeconds_47 (by decide) ?_
    exact hk14 I v0 x14 x15 h kv0 hP hS (lv_sub hl [2, 1, 0] rfl)
theorem bk_X5_skipQuietSeconds_L14 {p : Program} {l : Launch} {e : Env} {s : State} {m : MethodId} {args : Array Value} {below : List Frame} {meth : Method} {c : Code} (C : CallFix p m c cX5_skipQuietSeconds 4 s args mc_big RX5) (hr : meth.sig.returnType = none) (hlk : meth.locks = false) {w : mc_w} (K : mc_K mc_k 152 w s) {R : Nat → Nat → Option Nat} {F : Nat} {Iz : Nat → Nat → Int32} : ∀ n : Nat, ∀ (I : Nat → Nat → Int32) (v0 : Nat) (v2 : Int32) (v3 : Int32), mi_X5_skipQuietSeconds_L14 F n I R v0 v2 v3 = some Iz → (mc_k v0 = 5) → ∀ {H : Heap} {locs : List Loc} {ls : Array Slot}, mc_P mc_k 152 w I R H → va_S (mc_A 152 w) s.heap H locs → lv_has ls 4 [(0, .ref (w.2.2.1 v0)), (2, .int v2), (3, .int v3)] → W p l e ({ frames := 4, cells := 0, slots := 0, locals := 86 } : Room) s m args below meth c H locs 0 0 (MQ below (mc_Q none (mc_B mc_k 152 w Iz R) (mc_A 152 w)) args s 0 0 (mc_A 152 w)) (F0 m 14 ls []) := by
  intro n
  induction n with
  | zero =>
    intro I v0 v2 v3 h
    cases h
  | succ n ih =>
    intro I v0 v2 v3 h
    exact bk_X5_skipQuietSeconds_B14 C hr hlk K  ih I v0 v2 v3 h
set_option maxHeartbeats 4000000 in
set_option maxRecDepth 100000 in
theorem ct_X5_skipQuietSeconds (l : Launch) {w : mc_w} {I : Nat → Nat → Int32} {R : Nat → Nat → Option Nat} {F : Nat} {v0 : Nat} {v1 : Int32} (kv0 : mc_k v0 = 5) {Iz : Nat → Nat → Int32} (h : mi_X5_skipQuietSeconds F I R v0 v1 = some Iz) : Met l yX5_skipQuietSeconds (Cond.code yX5_skipQuietSeconds cX5_skipQuietSeconds 4 none :: mc_big) ({ frames := 4, cells := 0, slots := 0, locals := 86 } : Room) (va_Pc [.ref (w.2.2.1 v0), .int v1] (mc_B mc_k 152 w I R)) (mc_Q none (mc_B mc_k 152 w Iz R) (mc_A 152 w)) 0 0 (mc_A 152 w) := by
  refine Met.ofW (cc := cX5_skipQuietSeconds) (maxL := 4) (ret := none) (by decide) rfl ?_
  intro p e s m args below meth c s₁ B hml hv
  obtain ⟨rfl, hP, K⟩ := hv
  have hown : s.vm.findClass RX5 = some m.cls := findClass_of_methodNamed B.named
  have C : CallFix p m c cX5_skipQuietSeconds 4 s _ mc_big RX5 := ⟨B.exec, B.bytes, hml, hown, fun w hw => atoms_spec B.pre w (List.mem_cons_of_mem _ hw)⟩
  have hx := C.1
  have hb := C.2.1
  have hC := And.intro C.1 C.2.1
  have hr := B.returns
  have hlk := B.notSynchronized
  have hS : va_S (mc_A 152 w) s.heap s.heap [] := va_S.rf
  have hl := lv_entry ([.ref (w.2.2.1 v0), .int v1]) (n := 4) (Nat.le_of_ble_eq_true rfl)
  rw [lg_entry_eq]
  generalize (lg_sl ([.ref (w.2.2.1 v0), .int v1]) ++ List.replicate (4 - (lg_sl ([.ref (w.2.2.1 v0), .int v1])).length) Slot.unset).toArray = ls at hl ⊢
  have hl : lv_has ls 4 [(0, .ref (w.2.2.1 v0)), (1, .int v1)] := hl
  unfold mi_X5_skipQuietSeconds at h
  refine lv_iload_n hx hb dX5_skipQuietSeconds_0 rfl (lv_at hl 1 rfl) ?_
  refine lv_istore_n (i := 2) (lv' := [(2, .int v1), (0, .ref (w.2.2.1 v0)), (1, .int v1)]) hx hb dX5_skipQuietSeconds_1 rfl hl (by decide) rfl (fun ls hl => ?_)
  refine lv_aload_n hx hb dX5_skipQuietSeconds_2 rfl (lv_at hl 1 rfl) ?_
  refine mf_X5_12 C K hP kv0 dX5_skipQuietSeconds_3 ?_
  refine mg_Vz (As := []) (rest := []) (ct_X1_isSticking l (w := w) (I := I) (R := R) (kk_5_1 kv0) rfl) C K hP hS hl.1 (kk_5_1 kv0) (by decide) rfl rfl ml_X5_170 wy_X1_isSticking wd_X1_isSticking rfl rfl rfl ⟨Nat.le_of_ble_eq_true rfl, Nat.le_of_ble_eq_true rfl⟩ (Nat.le_of_ble_eq_true rfl) ⟨Nat.zero_le _, Nat.zero_le _⟩ dX5_skipQuietSeconds_6 (fun H locs hP z2 hS => ?_)
  refine lv_if_ne (tgt := 66) hx hb dX5_skipQuietSeconds_9 (by decide) (fun c3 => ?_) (fun c3 => ?_)
  · replace h := mc_ie h c3
    refine lv_aload_n hx hb dX5_skipQuietSeconds_66 rfl (lv_at hl 1 rfl) ?_
    refine lv_dup hx hb dX5_skipQuietSeconds_67 rfl ?_
    refine mf_X5_59 C K hP kv0 dX5_skipQuietSeconds_68 ?_
    refine lv_iload_n hx hb dX5_skipQuietSeconds_71 rfl (lv_at hl 0 rfl) ?_
    refine lv_iadd hx hb dX5_skipQuietSeconds_72 ?_
    obtain ⟨I4, eI4, h⟩ := mc_bn_e h
    refine mp_X5_59 C K hP hS kv0 eI4 dX5_skipQuietSeconds_73 (fun H locs hP hS => ?_)
    cases h
    exact mt_v hC hr hlk K hP hS dX5_skipQuietSeconds_76
  · replace h := mc_it h c3
    refine lv_iconst (v := 0) hx hb dX5_skipQuietSeconds_12 (by decide) ?_
    refine lv_istore_n (i := 3) (lv' := [(3, .int 0), (2, .int v1), (0, .ref (w.2.2.1 v0)), (1, .int v1)]) hx hb dX5_skipQuietSeconds_13 rfl hl (by decide) rfl (fun ls hl => ?_)
    exact bk_X5_skipQuietSeconds_L14 C hr hlk K  F I v0 v1 0 h kv0 hP hS (lv_sub hl [2, 1, 0] rfl)
set_option maxHeartbeats 4000000 in
set_option maxRecDepth 100000 in
theorem bk_X5_firstBottleBetween_B7 {p : Program} {l : Launch} {e : Env} {s : State} {m : MethodId} {args : Array Value} {below : List Frame} {meth : Method} {c : Code} (C : CallFix p m c cX5_firstBottleBetween 5 s args mc_big RX5) (hr : meth.sig.returnType = (some ((.object "MessengerCasts$Bottle")))) (hlk : meth.locks = false) {w : mc_w} (K : mc_K mc_k 152 w s) {I : Nat → Nat → Int32} {R : Nat → Nat → Option Nat} {F : Nat} {rz : Option Nat} {k7 : (Nat → Nat → Int32) → (Nat → Nat → Option Nat) → Nat → Int32 → Int32 → Int32 → Option (Option Nat)} (hk7 : ∀ (v0 : Nat) (v1 : Int32) (v2 : Int32) (v3 : Int32), k7 I R v0 v1 v2 v3 = some rz → (mc_k v0 = 5) → ∀ {H : Heap} {locs : List Loc} {ls : Array Slot}, mc_P mc_k 152 w I R H → va_S (mc_A 152 w) s.heap H locs → lv_has ls 5 [(0, .ref (w.2.2.1 v0)), (1, .int v1), (2, .int v2), (3, .int v3)] → W p l e ({ frames := 1, cells := 0, slots := 0, locals := 21 } : Room) s m args below meth c H locs 0 0 (MQ below (mc_Q (some (va_re w.2.2.1 rz)) (fun t => mc_B mc_k 152 w I R t ∧ (∀ b, rz = some b → mc_k b = 0)) (mc_A 152 w)) args s 0 0 (mc_A 152 w)) (F0 m 7 ls [])) : ∀ (v0 : Nat) (v1 : Int32) (v2 : Int32) (v3 : Int32), mi_X5_firstBottleBetween_B7 k7 F I R v0 v1 v2 v3 = some rz → (mc_k v0 = 5) → ∀ {H : Heap} {locs : List Loc} {ls : Array Slot}, mc_P mc_k 152 w I R H → va_S (mc_A 152 w) s.heap H locs → lv_has ls 5 [(0, .ref (w.2.2.1 v0)), (1, .int v1), (2, .int v2), (3, .int v3)] → W p l e ({ frames := 1, cells := 0, slots := 0, locals := 21 } : Room) s m args below meth c H locs 0 0 (MQ below (mc_Q (some (va_re w.2.2.1 rz)) (fun t => mc_B mc_k 152 w I R t ∧ (∀ b, rz = some b → mc_k b = 0)) (mc_A 152 w)) args s 0 0 (mc_A 152 w)) (F0 m 7 ls []) := by
  intro v0 v1 v2 v3 h kv0 H locs ls hP hS hl
  have hx := C.1
  have hb := C.2.1
  have hC := And.intro C.1 C.2.1
  unfold mi_X5_firstBottleBetween_B7 at h
  refine lv_iload_n hx hb dX5_firstBottleBetween_7 rfl (lv_at hl 3 rfl) ?_
  refine lv_if_lt (tgt := 65) hx hb dX5_firstBottleBetween_8 (by decide) (fun c2 => ?_) (fun c2 => ?_)
  · replace h := mc_it h c2
    refine lv_null hx hb dX5_firstBottleBetween_65 ?_
    cases h
    exact mt_a (x := none) hC hr hlk K hP hS (fun _ h => nomatch h) dX5_firstBottleBetween_66
  · replace h := mc_ie h c2
    refine lv_aload_n hx hb dX5_firstBottleBetween_11 rfl (lv_at hl 0 rfl) ?_
    refine lv_iload_n hx hb dX5_firstBottleBetween_12 rfl (lv_at hl 3 rfl) ?_
    obtain ⟨r3, e4, h⟩ := mc_ob_e h
    refine mg_Vr (As := [.int v3]) (rest := []) (ct_X5_bottleAt l (w := w) (I := I) (R := R) kv0 e4) C K hP hS hl.1 kv0 (by decide) rfl rfl ml_X5_62 wy_X5_bottleAt wd_X5_bottleAt rfl rfl rfl ⟨Nat.le_of_ble_eq_true rfl, Nat.le_of_ble_eq_true rfl⟩ (Nat.le_of_ble_eq_true rfl) ⟨Nat.zero_le _, Nat.zero_le _⟩ dX5_firstBottleBetween_13 (fun H locs hP tr3 hS => ?_)
    refine mv_astore (i := 4) (lv' := [(4, va_re w.2.2.1 r3), (0, .ref (w.2.2.1 v0)), (1, .int v1), (2, .int v2), (3, .int v3)]) hC dX5_firstBottleBetween_16 hl (by decide) rfl (fun ls hl => ?_)
    refine mv_aload hC dX5_firstBottleBetween_18 (lv_at hl 0 rfl) ?_
    rcases r3 with _ | b5
    · replace h := mc_om_n h
      refine lv_ifnullN (tgt := 59) hx hb dX5_firstBottleBetween_20 (by decide) ?_
      have hl : lv_has ls 5 [(4, va_re w.2.2.1 none), (0, .ref (w.2.2.1 v0)), (1, .int v1), (2, .int v2), (3, .int v3)] := hl
      obtain ⟨x6, ex6, h⟩ := mc_bn_e h
      refine lv_iinc (v := x6) (lv' := [(3, .int x6), (4, va_re w.2.2.1 none), (0, .ref (w.2.2.1 v0)), (1, .int v1), (2, .int v2)]) hx hb dX5_firstBottleBetween_59 hl (k := 4) rfl (by rw [ex6]; rfl) (by decide) rfl (fun ls hl => ?_)
      refine lv_goto (tgt := 7) hx hb dX5_firstBottleBetween_62 (by decide) ?_
      exact hk7 v0 v1 v2 x6 h kv0 hP hS (lv_sub hl [2, 3, 4, 0] rfl)
    · replace h := mc_om_s h
      have kb5 := tr3 b5 rfl
      refine lv_ifnull hx hb dX5_firstBottleBetween_20 ?_
      have hl : lv_has ls 5 [(4, .ref (w.2.2.1 b5)), (0, .ref (w.2.2.1 v0)), (1, .int v1), (2, .int v2), (3, .int v3)] := hl
      refine lv_aload hx hb dX5_firstBottleBetween_23 (lv_at hl 0 rfl) ?_
      refine mf_X5_95 C K hP kb5 dX5_firstBottleBetween_25 ?_
      refine lv_iload_n hx hb dX5_firstBottleBetween_28 rfl (lv_at hl 2 rfl) ?_
      refine lv_icmp_ge (tgt := 59) hx hb dX5_firstBottleBetween_29 (by decide) (fun c7 => ?_) (fun c7 => ?_)
      · replace h := mc_it h c7
        obtain ⟨x8, ex8, h⟩ := mc_bn_e h
        refine lv_iinc (v := x8) (lv' := [(3, .int x8), (4, .ref (w.2.2.1 b5)), (0, .ref (w.2.2.1 v0)), (1, .int v1), (2, .int v2)]) hx hb dX5_firstBottleBetween_59 hl (k := 4) rfl (by rw [ex8]; rfl) (by decide) rfl (fun ls hl => ?_)
        refine lv_goto (tgt := 7) hx hb dX5_firstBottleBetween_62 (by decide) ?_
        exact hk7 v0 v1 v2 x8 h kv0 hP hS (lv_sub hl [2, 3, 4, 0] rfl)
      · replace h := mc_ie h c7
        refine lv_aload hx hb dX5_firstBottleBetween_32 (lv_at hl 0 rfl) ?_
        refine mf_X5_95 C K hP kb5 dX5_firstBottleBetween_34 ?_
        refine lv_iload_n hx hb dX5_firstBottleBetween_37 rfl (lv_at hl 3 rfl) ?_
        refine lv_icmp_lt (tgt := 59) hx hb dX5_firstBottleBetween_38 (by decide) (fun c9 => ?_) (fun c9 => ?_)
        · replace h := mc_it h c9
          obtain ⟨x10, ex10, h⟩ := mc_bn_e h
          refine lv_iinc (v := x10) (lv' := [(3, .int x10), (4, .ref (w.2.2.1 b5)), (0, .ref (w.2.2.1 v0)), (1, .int v1), (2, .int v2)]) hx hb dX5_firstBottleBetween_59 hl (k := 4) rfl (by rw [ex10]; rfl) (by decide) rfl (fun ls hl => ?_)
          refine lv_goto (tgt := 7) hx hb dX5_firstBottleBetween_62 (by decide) ?_
          exact hk7 v0 v1 v2 x10 h kv0 hP hS (lv_sub hl [2, 3, 4, 0] rfl)
        · replace h := mc_ie h c9
          refine lv_aload_n hx hb dX5_firstBottleBetween_41 rfl (lv_at hl 1 rfl) ?_
          refine mf_X5_12 C K hP kv0 dX5_firstBottleBetween_42 ?_
          refine lv_aload hx hb dX5_firstBottleBetween_45 (lv_at hl 0 rfl) ?_
          refine mf_X5_95 C K hP kb5 dX5_firstBottleBetween_47 ?_
          refine mg_Vz (As := [.int (I b5 0)]) (rest := []) (ct_X1_isInWater l (w := w) (I := I) (R := R) (kk_5_1 kv0) rfl) C K hP hS hl.1 (kk_5_1 kv0) (by decide) rfl rfl ml_X5_102 wy_X1_isInWater wd_X1_isInWater rfl rfl rfl ⟨Nat.le_of_ble_eq_true rfl, Nat.le_of_ble_eq_true rfl⟩ (Nat.le_of_ble_eq_true rfl) ⟨Nat.zero_le _, Nat.zero_le _⟩ dX5_firstBottleBetween_50 (fun H locs hP z12 hS => ?_)
          refine lv_if_eq (tgt := 59) hx hb dX5_firstBottleBetween_53 (by decide) (fun c13 => ?_) (fun c13 => ?_)
          · replace h := mc_it h c13
            obtain ⟨x14, ex14, h⟩ := mc_bn_e h
            refine lv_iinc (v := x14) (lv' := [(3, .int x14), (4, .ref (w.2.2.1 b5)), (0, .ref (w.2.2.1 v0)), (1, .int v1), (2, .int v2)]) hx hb dX5_firstBottleBetween_59 hl (k := 4) rfl (by rw [ex14]; rfl) (by decide) rfl (fun ls hl => ?_)
            refine lv_goto (tgt := 7) hx hb dX5_firstBottleBetween_62 (by decide) ?_
            exact hk7 v0 v1 v2 x14 h kv0 hP hS (lv_sub hl [2, 3, 4, 0] rfl)
          · replace h := mc_ie h c13
            refine lv_aload hx hb dX5_firstBottleBetween_56 (lv_at hl 0 rfl) ?_
            cases h
            exact mt_a (x := (some b5)) hC hr hlk K hP hS (fun b hb => by cases hb; exact kb5) dX5_firstBottleBetween_58
theorem bk_X5_firstBottleBetween_L7 {p : Program} {l : Launch} {e : Env} {s : State} {m : MethodId} {args : Array Value} {below : List Frame} {meth : Method} {c : Code} (C : CallFix p m c cX5_firstBottleBetween 5 s args mc_big RX5) (hr : meth.sig.returnType = (some ((.object "MessengerCasts$Bottle")))) (hlk : meth.locks = false) {w : mc_w} (K : mc_K mc_k 152 w s) {I : Nat → Nat → Int32} {R : Nat → Nat → Option Nat} {F : Nat} {rz : Option Nat} : ∀ n : Nat, ∀ (v0 : Nat) (v1 : Int32) (v2 : Int32) (v3 : Int32), mi_X5_firstBottleBetween_L7 F n I R v0 v1 v2 v3 = some rz → (mc_k v0 = 5) → ∀ {H : Heap} {locs : List Loc} {ls : Array Slot}, mc_P mc_k 152 w I R H → va_S (mc_A 152 w) s.heap H locs → lv_has ls 5 [(0, .ref (w.2.2.1 v0)), (1, .int v1), (2, .int v2), (3, .int v3)] → W p l e ({ frames := 1, cells := 0, slots := 0, locals := 21 } : Room) s m args below meth c H locs 0 0 (MQ below (mc_Q (some (va_re w.2.2.1 rz)) (fun t => mc_B mc_k 152 w I R t ∧ (∀ b, rz = some b → mc_k b = 0)) (mc_A 152 w)) args s 0 0 (mc_A 152 w)) (F0 m 7 ls []) := by
  intro n
  induction n with
  | zero =>
    intro v0 v1 v2 v3 h
    cases h
  | succ n ih =>
    intro v0 v1 v2 v3 h
    exact bk_X5_firstBottleBetween_B7 C hr hlk K  ih v0 v1 v2 v3 h
set_option maxHeartbeats 4000000 in
set_option maxRecDepth 100000 in
theorem ct_X5_firstBottleBetween (l : Launch) {w : mc_w} {I : Nat → Nat → Int32} {R : Nat → Nat → Option Nat} {F : Nat} {v0 : Nat} {v1 : Int32} {v2 : Int32} (kv0 : mc_k v0 = 5) {rz : Option Nat} (h : mi_X5_firstBottleBetween F I R v0 v1 v2 = some rz) : Met l yX5_firstBottleBetween (Cond.code yX5_firstBottleBetween cX5_firstBottleBetween 5 (some ((.object "MessengerCasts$Bottle"))) :: mc_big) ({ frames := 1, cells := 0, slots := 0, locals := 21 } : Room) (va_Pc [.ref (w.2.2.1 v0), .int v1, .int v2] (mc_B mc_k 152 w I R)) (mc_Q (some (va_re w.2.2.1 rz)) (fun t => mc_B mc_k 152 w I R t ∧ (∀ b, rz = some b → mc_k b = 0)) (mc_A 152 w)) 0 0 (mc_A 152 w) := by
  refine Met.ofW (cc := cX5_firstBottleBetween) (maxL := 5) (ret := (some ((.object "MessengerCasts$Bottle")))) (by decide) rfl ?_
  intro p e s m args below meth c s₁ B hml hv
  obtain ⟨rfl, hP, K⟩ := hv
  have hown : s.vm.findClass RX5 = some m.cls := findClass_of_methodNamed B.named
  have C : CallFix p m c cX5_firstBottleBetween 5 s _ mc_big RX5 := ⟨B.exec, B.bytes, hml, hown, fun w hw => atoms_spec B.pre w (List.mem_cons_of_mem _ hw)⟩
  have hx := C.1
  have hb := C.2.1
  have hC := And.intro C.1 C.2.1
  have hr := B.returns
  have hlk := B.notSynchronized
  have hS : va_S (mc_A 152 w) s.heap s.heap [] := va_S.rf
  have hl := lv_entry ([.ref (w.2.2.1 v0), .int v1, .int v2]) (n := 5) (Nat.le_of_ble_eq_true rfl)
  rw [lg_entry_eq]
  generalize (lg_sl ([.ref (w.2.2.1 v0), .int v1, .int v2]) ++ List.replicate (5 - (lg_sl ([.ref (w.2.2.1 v0), .int v1, .int v2])).length) Slot.unset).toArray = ls at hl ⊢
  have hl : lv_has ls 5 [(0, .ref (w.2.2.1 v0)), (1, .int v1), (2, .int v2)] := hl
  unfold mi_X5_firstBottleBetween at h
  refine lv_aload_n hx hb dX5_firstBottleBetween_0 rfl (lv_at hl 0 rfl) ?_
  refine mf_X5_56 C K hP kv0 dX5_firstBottleBetween_1 ?_
  refine lv_iconst (v := 1) hx hb dX5_firstBottleBetween_4 (by decide) ?_
  refine lv_isub hx hb dX5_firstBottleBetween_5 ?_
  obtain ⟨x1, ex1, h⟩ := mc_bn_e h
  refine mv_top ex1 ?_
  refine lv_istore_n (i := 3) (lv' := [(3, .int x1), (0, .ref (w.2.2.1 v0)), (1, .int v1), (2, .int v2)]) hx hb dX5_firstBottleBetween_6 rfl hl (by decide) rfl (fun ls hl => ?_)
  exact bk_X5_firstBottleBetween_L7 C hr hlk K  F v0 v1 v2 x1 h kv0 hP hS (lv_sub hl [1, 2, 3, 0] rfl)
set_option maxHeartbeats 4000000 in
set_option maxRecDepth 100000 in
theorem ct_X5_strike (l : Launch) {w : mc_w} {I : Nat → Nat → Int32} {R : Nat → Nat → Option Nat} {v0 : Nat} {v1 : Nat} (kv0 : mc_k v0 = 5) (kv1 : mc_k v1 = 0) {Iz : Nat → Nat → Int32} {rz : Int32} (h : mi_X5_strike I v0 v1 = some (Iz, rz)) : Met l yX5_strike (Cond.code yX5_strike cX5_strike 2 (some .boolean) :: mc_big) ({ frames := 3, cells := 0, slots := 0, locals := 65 } : Room) (va_Pc [.ref (w.2.2.1 v0), .ref (w.2.2.1 v1)] (mc_B mc_k 152 w I R)) (mc_Q (some (.int rz)) (fun t => mc_B mc_k 152 w Iz R t ∧ ¬ (rz ≠ 0 ∧ rz ≠ 1)) (mc_A 152 w)) 0 0 (mc_A 152 w) := by
  refine Met.ofW (cc := cX5_strike) (maxL := 2) (ret := (some .boolean)) (by decide) rfl ?_
  intro p e s m args below meth c s₁ B hml hv
  obtain ⟨rfl, hP, K⟩ := hv
  have hown : s.vm.findClass RX5 = some m.cls := findClass_of_methodNamed B.named
  have C : CallFix p m c cX5_strike 2 s _ mc_big RX5 := ⟨B.exec, B.bytes, hml, hown, fun w hw => atoms_spec B.pre w (List.mem_cons_of_mem _ hw)⟩
  have hx := C.1
  have hb := C.2.1
  have hC := And.intro C.1 C.2.1
  have hr := B.returns
  have hlk := B.notSynchronized
  have hS : va_S (mc_A 152 w) s.heap s.heap [] := va_S.rf
  have hl := lv_entry ([.ref (w.2.2.1 v0), .ref (w.2.2.1 v1)]) (n := 2) (Nat.le_of_ble_eq_true rfl)
  rw [lg_entry_eq]
  generalize (lg_sl ([.ref (w.2.2.1 v0), .ref (w.2.2.1 v1)]) ++ List.replicate (2 - (lg_sl ([.ref (w.2.2.1 v0), .ref (w.2.2.1 v1)])).length) Slot.unset).toArray = ls at hl ⊢
  have hl : lv_has ls 2 [(0, .ref (w.2.2.1 v0)), (1, .ref (w.2.2.1 v1))] := hl
  unfold mi_X5_strike at h
  refine lv_aload_n hx hb dX5_strike_0 rfl (lv_at hl 1 rfl) ?_
  refine lv_dup hx hb dX5_strike_1 rfl ?_
  refine mf_X5_206 C K hP kv1 dX5_strike_2 ?_
  refine lv_iconst (v := 1) hx hb dX5_strike_5 (by decide) ?_
  refine lv_iadd hx hb dX5_strike_6 ?_
  obtain ⟨I1, eI1, h⟩ := mc_bn_e h
  refine mp_X5_206 C K hP hS kv1 eI1 dX5_strike_7 (fun H locs hP hS => ?_)
  refine lv_aload_n hx hb dX5_strike_10 rfl (lv_at hl 1 rfl) ?_
  refine mf_X5_130 C K hP kv1 dX5_strike_11 ?_
  refine lv_if_eq (tgt := 19) hx hb dX5_strike_14 (by decide) (fun c2 => ?_) (fun c2 => ?_)
  · replace h := mc_it h c2
    refine lv_aload_n hx hb dX5_strike_19 rfl (lv_at hl 0 rfl) ?_
    refine lv_aload_n hx hb dX5_strike_20 rfl (lv_at hl 1 rfl) ?_
    obtain ⟨I3, e4, h⟩ := mc_ob_e h
    refine mg_Vv (As := [.ref (w.2.2.1 v1)]) (rest := []) (ct_X5_shut l (w := w) (I := I1) (R := R) kv0 kv1 e4) C K hP hS hl.1 kv0 (by decide) rfl rfl ml_X5_133 wy_X5_shut wd_X5_shut rfl rfl rfl ⟨Nat.le_of_ble_eq_true rfl, Nat.le_of_ble_eq_true rfl⟩ (Nat.le_of_ble_eq_true rfl) ⟨Nat.zero_le _, Nat.zero_le _⟩ dX5_strike_21 (fun H locs hP hS => ?_)
    refine lv_aload_n hx hb dX5_strike_24 rfl (lv_at hl 1 rfl) ?_
    refine mf_X5_209 C K hP kv1 dX5_strike_25 ?_
    refine lv_if_ne (tgt := 33) hx hb dX5_strike_28 (by decide) (fun c5 => ?_) (fun c5 => ?_)
    · replace h := mc_ie h c5
      refine lv_aload_n hx hb dX5_strike_33 rfl (lv_at hl 1 rfl) ?_
      refine lv_iconst (v := 0) hx hb dX5_strike_34 (by decide) ?_
      obtain ⟨I6, eI6, h⟩ := mc_bn_e h
      refine mp_X5_209 C K hP hS kv1 eI6 ⟨by decide, by decide⟩ dX5_strike_35 (fun H locs hP hS => ?_)
      refine lv_aload_n hx hb dX5_strike_38 rfl (lv_at hl 0 rfl) ?_
      refine mf_X5_28 C K hP kv0 dX5_strike_39 ?_
      refine lv_dup hx hb dX5_strike_42 rfl ?_
      refine mf_X5_212 C K hP (kk_5_5 kv0) dX5_strike_43 ?_
      refine lv_iconst (v := 1) hx hb dX5_strike_46 (by decide) ?_
      refine lv_iadd hx hb dX5_strike_47 ?_
      obtain ⟨I7, eI7, h⟩ := mc_bn_e h
      refine mp_X5_212 C K hP hS (kk_5_5 kv0) eI7 dX5_strike_48 (fun H locs hP hS => ?_)
      refine lv_iconst (v := 1) hx hb dX5_strike_51 (by decide) ?_
      cases h
      exact mt_zX hC hr hlk K hP hS (by decide) (by decide) dX5_strike_52
    · replace h := mc_it h c5
      refine lv_iconst (v := 0) hx hb dX5_strike_31 (by decide) ?_
      cases h
      exact mt_zX hC hr hlk K hP hS (by decide) (by decide) dX5_strike_32
  · replace h := mc_ie h c2
    refine lv_iconst (v := 0) hx hb dX5_strike_17 (by decide) ?_
    cases h
    exact mt_zX hC hr hlk K hP hS (by decide) (by decide) dX5_strike_18
set_option maxHeartbeats 4000000 in
set_option maxRecDepth 100000 in
theorem bk_X5_passOneSecond_B25 {p : Program} {l : Launch} {e : Env} {s : State} {m : MethodId} {args : Array Value} {below : List Frame} {meth : Method} {c : Code} (C : CallFix p m c cX5_passOneSecond 6 s args mc_big RX5) (hr : meth.sig.returnType = none) (hlk : meth.locks = false) {w : mc_w} (K : mc_K mc_k 152 w s) {R : Nat → Nat → Option Nat} {F : Nat} {Iz : Nat → Nat → Int32} {k25 : (Nat → Nat → Int32) → (Nat → Nat → Option Nat) → Nat → Int32 → Int32 → (Option ((Nat → Nat → Int32)))} (hk25 : ∀ (I : Nat → Nat → Int32) (v0 : Nat) (v1 : Int32) (v2 : Int32), k25 I R v0 v1 v2 = some Iz → (mc_k v0 = 5) → ∀ {H : Heap} {locs : List Loc} {ls : Array Slot}, mc_P mc_k 152 w I R H → va_S (mc_A 152 w) s.heap H locs → lv_has ls 6 [(0, .ref (w.2.2.1 v0)), (1, .int v1), (2, .int v2)] → W p l e ({ frames := 4, cells := 0, slots := 0, locals := 86 } : Room) s m args below meth c H locs 0 0 (MQ below (mc_Q none (mc_B mc_k 152 w Iz R) (mc_A 152 w)) args s 0 0 (mc_A 152 w)) (F0 m 25 ls [])) : ∀ (I : Nat → Nat → Int32) (v0 : Nat) (v1 : Int32) (v2 : Int32), mi_X5_passOneSecond_B25 k25 F I R v0 v1 v2 = some Iz → (mc_k v0 = 5) → ∀ {H : Heap} {locs : List Loc} {ls : Array Slot}, mc_P mc_k 152 w I R H → va_S (mc_A 152 w) s.heap H locs → lv_has ls 6 [(0, .ref (w.2.2.1 v0)), (1, .int v1), (2, .int v2)] → W p l e ({ frames := 4, cells := 0, slots := 0, locals := 86 } : Room) s m args below meth c H locs 0 0 (MQ below (mc_Q none (mc_B mc_k 152 w Iz R) (mc_A 152 w)) args s 0 0 (mc_A 152 w)) (F0 m 25 ls []) := by
  intro I v0 v1 v2 h kv0 H locs ls hP hS hl
  have hx := C.1
  have hb := C.2.1
  have hC := And.intro C.1 C.2.1
  unfold mi_X5_passOneSecond_B25 at h
  refine lv_iload_n hx hb dX5_passOneSecond_25 rfl (lv_at hl 2 rfl) ?_
  refine lv_aload_n hx hb dX5_passOneSecond_26 rfl (lv_at hl 0 rfl) ?_
  refine mf_X5_28 C K hP kv0 dX5_passOneSecond_27 ?_
  refine mf_X5_106 C K hP (kk_5_5 kv0) dX5_passOneSecond_30 ?_
  refine lv_icmp_ge (tgt := 151) hx hb dX5_passOneSecond_33 (by decide) (fun c5 => ?_) (fun c5 => ?_)
  · replace h := mc_it h c5
    refine lv_aload_n hx hb dX5_passOneSecond_151 rfl (lv_at hl 0 rfl) ?_
    refine mf_X5_28 C K hP kv0 dX5_passOneSecond_152 ?_
    refine lv_iload_n hx hb dX5_passOneSecond_155 rfl (lv_at hl 1 rfl) ?_
    obtain ⟨I6, eI6, h⟩ := mc_bn_e h
    refine mp_X5_106 C K hP hS (kk_5_5 kv0) eI6 dX5_passOneSecond_156 (fun H locs hP hS => ?_)
    cases h
    exact mt_v hC hr hlk K hP hS dX5_passOneSecond_159
  · replace h := mc_ie h c5
    refine lv_aload_n hx hb dX5_passOneSecond_36 rfl (lv_at hl 0 rfl) ?_
    refine mf_X5_28 C K hP kv0 dX5_passOneSecond_37 ?_
    refine lv_iload_n hx hb dX5_passOneSecond_40 rfl (lv_at hl 2 rfl) ?_
    obtain ⟨r7, e8, h⟩ := mc_ob_e h
    refine mg_Vi (As := [.int v2]) (rest := []) (ct_X4_markAt l (w := w) (I := I) (R := R) (kk_5_5 kv0) e8) C K hP hS hl.1 (kk_5_5 kv0) (by decide) rfl rfl ml_X5_174 wy_X4_markAt wd_X4_markAt rfl rfl rfl ⟨Nat.le_of_ble_eq_true rfl, Nat.le_of_ble_eq_true rfl⟩ (Nat.le_of_ble_eq_true rfl) ⟨Nat.zero_le _, Nat.zero_le _⟩ dX5_passOneSecond_41 (fun H locs hP hS => ?_)
    refine lv_istore_n (i := 3) (lv' := [(3, .int r7), (0, .ref (w.2.2.1 v0)), (1, .int v1), (2, .int v2)]) hx hb dX5_passOneSecond_44 rfl hl (by decide) rfl (fun ls hl => ?_)
    refine lv_iload_n hx hb dX5_passOneSecond_45 rfl (lv_at hl 0 rfl) ?_
    refine lv_aload_n hx hb dX5_passOneSecond_46 rfl (lv_at hl 1 rfl) ?_
    refine mf_X5_12 C K hP kv0 dX5_passOneSecond_47 ?_
    refine mg_Vi (As := []) (rest := [.int r7]) (ct_X1_step l (w := w) (I := I) (R := R) (kk_5_1 kv0) rfl) C K hP hS hl.1 (kk_5_1 kv0) (by decide) rfl rfl ml_X5_183 wy_X1_step wd_X1_step rfl rfl rfl ⟨Nat.le_of_ble_eq_true rfl, Nat.le_of_ble_eq_true rfl⟩ (Nat.le_of_ble_eq_true rfl) ⟨Nat.zero_le _, Nat.zero_le _⟩ dX5_passOneSecond_50 (fun H locs hP hS => ?_)
    refine lv_isub hx hb dX5_passOneSecond_53 ?_
    obtain ⟨x10, ex10, h⟩ := mc_bn_e h
    refine mv_top ex10 ?_
    refine lv_istore (i := 4) (lv' := [(4, .int x10), (3, .int r7), (0, .ref (w.2.2.1 v0)), (1, .int v1), (2, .int v2)]) hx hb dX5_passOneSecond_54 hl (by decide) rfl (fun ls hl => ?_)
    refine lv_aload_n hx hb dX5_passOneSecond_56 rfl (lv_at hl 2 rfl) ?_
    refine lv_iload_n hx hb dX5_passOneSecond_57 rfl (lv_at hl 1 rfl) ?_
    refine lv_iload hx hb dX5_passOneSecond_58 (lv_at hl 0 rfl) ?_
    obtain ⟨r11, e12, h⟩ := mc_ob_e h
    refine mg_Vr (As := [.int r7, .int x10]) (rest := []) (ct_X5_firstBottleBetween l (w := w) (I := I) (R := R) kv0 e12) C K hP hS hl.1 kv0 (by decide) rfl rfl ml_X5_192 wy_X5_firstBottleBetween wd_X5_firstBottleBetween rfl rfl rfl ⟨Nat.le_of_ble_eq_true rfl, Nat.le_of_ble_eq_true rfl⟩ (Nat.le_of_ble_eq_true rfl) ⟨Nat.zero_le _, Nat.zero_le _⟩ dX5_passOneSecond_60 (fun H locs hP tr11 hS => ?_)
    refine mv_astore (i := 5) (lv' := [(5, va_re w.2.2.1 r11), (4, .int x10), (3, .int r7), (0, .ref (w.2.2.1 v0)), (1, .int v1), (2, .int v2)]) hC dX5_passOneSecond_63 hl (by decide) rfl (fun ls hl => ?_)
    refine mv_aload hC dX5_passOneSecond_65 (lv_at hl 0 rfl) ?_
    rcases r11 with _ | b13
    · replace h := mc_om_n h
      refine lv_ifnullN (tgt := 111) hx hb dX5_passOneSecond_67 (by decide) ?_
      have hl : lv_has ls 6 [(5, va_re w.2.2.1 none), (4, .int x10), (3, .int r7), (0, .ref (w.2.2.1 v0)), (1, .int v1), (2, .int v2)] := hl
      refine lv_iload hx hb dX5_passOneSecond_111 (lv_at hl 1 rfl) ?_
      refine lv_if_gt (tgt := 132) hx hb dX5_passOneSecond_113 (by decide) (fun c14 => ?_) (fun c14 => ?_)
      · replace h := mc_it h c14
        refine lv_aload_n hx hb dX5_passOneSecond_132 rfl (lv_at hl 3 rfl) ?_
        refine mf_X5_28 C K hP kv0 dX5_passOneSecond_133 ?_
        refine lv_iload_n hx hb dX5_passOneSecond_136 rfl (lv_at hl 4 rfl) ?_
        refine lv_iload hx hb dX5_passOneSecond_137 (lv_at hl 1 rfl) ?_
        obtain ⟨I15, e16, h⟩ := mc_ob_e h
        refine mg_Vv (As := [.int v1, .int x10]) (rest := []) (ct_X4_put l (w := w) (I := I) (R := R) (kk_5_5 kv0) e16) C K hP hS hl.1 (kk_5_5 kv0) (by decide) rfl rfl ml_X5_109 wy_X4_put wd_X4_put rfl rfl rfl ⟨Nat.le_of_ble_eq_true rfl, Nat.le_of_ble_eq_true rfl⟩ (Nat.le_of_ble_eq_true rfl) ⟨Nat.zero_le _, Nat.zero_le _⟩ dX5_passOneSecond_139 (fun H locs hP hS => ?_)
        obtain ⟨x17, ex17, h⟩ := mc_bn_e h
        refine lv_iinc (v := x17) (lv' := [(1, .int x17), (5, va_re w.2.2.1 none), (4, .int x10), (3, .int r7), (0, .ref (w.2.2.1 v0)), (2, .int v2)]) hx hb dX5_passOneSecond_142 hl (k := 4) rfl (by rw [ex17]; rfl) (by decide) rfl (fun ls hl => ?_)
        obtain ⟨x18, ex18, h⟩ := mc_bn_e h
        refine lv_iinc (v := x18) (lv' := [(2, .int x18), (1, .int x17), (5, va_re w.2.2.1 none), (4, .int x10), (3, .int r7), (0, .ref (w.2.2.1 v0))]) hx hb dX5_passOneSecond_145 hl (k := 5) rfl (by rw [ex18]; rfl) (by decide) rfl (fun ls hl => ?_)
        refine lv_goto (tgt := 25) hx hb dX5_passOneSecond_148 (by decide) ?_
        exact hk25 I15 v0 x17 x18 h kv0 hP hS (lv_sub hl [5, 1, 0] rfl)
      · replace h := mc_ie h c14
        refine lv_aload_n hx hb dX5_passOneSecond_116 rfl (lv_at hl 3 rfl) ?_
        refine mf_X5_28 C K hP kv0 dX5_passOneSecond_117 ?_
        refine lv_dup hx hb dX5_passOneSecond_120 rfl ?_
        refine mf_X5_203 C K hP (kk_5_5 kv0) dX5_passOneSecond_121 ?_
        refine lv_iconst (v := 1) hx hb dX5_passOneSecond_124 (by decide) ?_
        refine lv_iadd hx hb dX5_passOneSecond_125 ?_
        obtain ⟨I19, eI19, h⟩ := mc_bn_e h
        refine mp_X5_203 C K hP hS (kk_5_5 kv0) eI19 dX5_passOneSecond_126 (fun H locs hP hS => ?_)
        refine lv_goto (tgt := 145) hx hb dX5_passOneSecond_129 (by decide) ?_
        obtain ⟨x20, ex20, h⟩ := mc_bn_e h
        refine lv_iinc (v := x20) (lv' := [(2, .int x20), (5, va_re w.2.2.1 none), (4, .int x10), (3, .int r7), (0, .ref (w.2.2.1 v0)), (1, .int v1)]) hx hb dX5_passOneSecond_145 hl (k := 5) rfl (by rw [ex20]; rfl) (by decide) rfl (fun ls hl => ?_)
        refine lv_goto (tgt := 25) hx hb dX5_passOneSecond_148 (by decide) ?_
        exact hk25 I19 v0 v1 x20 h kv0 hP hS (lv_sub hl [4, 5, 0] rfl)
    · replace h := mc_om_s h
      have kb13 := tr11 b13 rfl
      refine lv_ifnull hx hb dX5_passOneSecond_67 ?_
      have hl : lv_has ls 6 [(5, .ref (w.2.2.1 b13)), (4, .int x10), (3, .int r7), (0, .ref (w.2.2.1 v0)), (1, .int v1), (2, .int v2)] := hl
      refine lv_aload_n hx hb dX5_passOneSecond_70 rfl (lv_at hl 3 rfl) ?_
      refine mf_X5_28 C K hP kv0 dX5_passOneSecond_71 ?_
      refine lv_dup hx hb dX5_passOneSecond_74 rfl ?_
      refine mf_X5_196 C K hP (kk_5_5 kv0) dX5_passOneSecond_75 ?_
      refine lv_iconst (v := 1) hx hb dX5_passOneSecond_78 (by decide) ?_
      refine lv_iadd hx hb dX5_passOneSecond_79 ?_
      obtain ⟨I21, eI21, h⟩ := mc_bn_e h
      refine mp_X5_196 C K hP hS (kk_5_5 kv0) eI21 dX5_passOneSecond_80 (fun H locs hP hS => ?_)
      refine lv_aload_n hx hb dX5_passOneSecond_83 rfl (lv_at hl 3 rfl) ?_
      refine lv_aload hx hb dX5_passOneSecond_84 (lv_at hl 0 rfl) ?_
      obtain ⟨I22, r23, e24, h⟩ := mc_ob2_e h
      refine mg_Vz (As := [.ref (w.2.2.1 b13)]) (rest := []) (ct_X5_strike l (w := w) (I := I21) (R := R) kv0 kb13 e24) C K hP hS hl.1 kv0 (by decide) rfl rfl ml_X5_199 wy_X5_strike wd_X5_strike rfl rfl rfl ⟨Nat.le_of_ble_eq_true rfl, Nat.le_of_ble_eq_true rfl⟩ (Nat.le_of_ble_eq_true rfl) ⟨Nat.zero_le _, Nat.zero_le _⟩ dX5_passOneSecond_86 (fun H locs hP z25 hS => ?_)
      refine lv_if_eq (tgt := 145) hx hb dX5_passOneSecond_89 (by decide) (fun c26 => ?_) (fun c26 => ?_)
      · replace h := mc_it h c26
        obtain ⟨x27, ex27, h⟩ := mc_bn_e h
        refine lv_iinc (v := x27) (lv' := [(2, .int x27), (5, .ref (w.2.2.1 b13)), (4, .int x10), (3, .int r7), (0, .ref (w.2.2.1 v0)), (1, .int v1)]) hx hb dX5_passOneSecond_145 hl (k := 5) rfl (by rw [ex27]; rfl) (by decide) rfl (fun ls hl => ?_)
        refine lv_goto (tgt := 25) hx hb dX5_passOneSecond_148 (by decide) ?_
        exact hk25 I22 v0 v1 x27 h kv0 hP hS (lv_sub hl [4, 5, 0] rfl)
      · replace h := mc_ie h c26
        refine lv_aload_n hx hb dX5_passOneSecond_92 rfl (lv_at hl 3 rfl) ?_
        refine mf_X5_28 C K hP kv0 dX5_passOneSecond_93 ?_
        refine lv_iload_n hx hb dX5_passOneSecond_96 rfl (lv_at hl 4 rfl) ?_
        refine lv_aload hx hb dX5_passOneSecond_97 (lv_at hl 0 rfl) ?_
        refine mf_X5_95 C K hP kb13 dX5_passOneSecond_99 ?_
        obtain ⟨I28, e29, h⟩ := mc_ob_e h
        refine mg_Vv (As := [.int v1, .int (I22 b13 0)]) (rest := []) (ct_X4_put l (w := w) (I := I22) (R := R) (kk_5_5 kv0) e29) C K hP hS hl.1 (kk_5_5 kv0) (by decide) rfl rfl ml_X5_109 wy_X4_put wd_X4_put rfl rfl rfl ⟨Nat.le_of_ble_eq_true rfl, Nat.le_of_ble_eq_true rfl⟩ (Nat.le_of_ble_eq_true rfl) ⟨Nat.zero_le _, Nat.zero_le _⟩ dX5_passOneSecond_102 (fun H locs hP hS => ?_)
        obtain ⟨x30, ex30, h⟩ := mc_bn_e h
        refine lv_iinc (v := x30) (lv' := [(1, .int x30), (5, .ref (w.2.2.1 b13)), (4, .int x10), (3, .int r7), (0, .ref (w.2.2.1 v0)), (2, .int v2)]) hx hb dX5_passOneSecond_105 hl (k := 4) rfl (by rw [ex30]; rfl) (by decide) rfl (fun ls hl => ?_)
        refine lv_goto (tgt := 145) hx hb dX5_passOneSecond_108 (by decide) ?_
        obtain ⟨x31, ex31, h⟩ := mc_bn_e h
        refine lv_iinc (v := x31) (lv' := [(2, .int x31), (1, .int x30), (5, .ref (w.2.2.1 b13)), (4, .int x10), (3, .int r7), (0, .ref (w.2.2.1 v0))]) hx hb dX5_passOneSecond_145 hl (k := 5) rfl (by rw [ex31]; rfl) (by decide) rfl (fun ls hl => ?_)
        refine lv_goto (tgt := 25) hx hb dX5_passOneSecond_148 (by decide) ?_
        exact hk25 I28 v0 x30 x31 h kv0 hP hS (lv_sub hl [5, 1, 0] rfl)
theorem bk_X5_passOneSecond_L25 {p : Program} {l : Launch} {e : Env} {s : State} {m : MethodId} {args : Array Value} {below : List Frame} {meth : Method} {c : Code} (C : CallFix p m c cX5_passOneSecond 6 s args mc_big RX5) (hr : meth.sig.returnType = none) (hlk : meth.locks = false) {w : mc_w} (K : mc_K mc_k 152 w s) {R : Nat → Nat → Option Nat} {F : Nat} {Iz : Nat → Nat → Int32} : ∀ n : Nat, ∀ (I : Nat → Nat → Int32) (v0 : Nat) (v1 : Int32) (v2 : Int32), mi_X5_passOneSecond_L25 F n I R v0 v1 v2 = some Iz → (mc_k v0 = 5) → ∀ {H : Heap} {locs : List Loc} {ls : Array Slot}, mc_P mc_k 152 w I R H → va_S (mc_A 152 w) s.heap H locs → lv_has ls 6 [(0, .ref (w.2.2.1 v0)), (1, .int v1), (2, .int v2)] → W p l e ({ frames := 4, cells := 0, slots := 0, locals := 86 } : Room) s m args below meth c H locs 0 0 (MQ below (mc_Q none (mc_B mc_k 152 w Iz R) (mc_A 152 w)) args s 0 0 (mc_A 152 w)) (F0 m 25 ls []) := by
  intro n
  induction n with
  | zero =>
    intro I v0 v1 v2 h
    cases h
  | succ n ih =>
    intro I v0 v1 v2 h
    exact bk_X5_passOneSecond_B25 C hr hlk K  ih I v0 v1 v2 h
set_option maxHeartbeats 4000000 in
set_option maxRecDepth 100000 in
theorem ct_X5_passOneSecond (l : Launch) {w : mc_w} {I : Nat → Nat → Int32} {R : Nat → Nat → Option Nat} {F : Nat} {v0 : Nat} (kv0 : mc_k v0 = 5) {Iz : Nat → Nat → Int32} (h : mi_X5_passOneSecond F I R v0 = some Iz) : Met l yX5_passOneSecond (Cond.code yX5_passOneSecond cX5_passOneSecond 6 none :: mc_big) ({ frames := 4, cells := 0, slots := 0, locals := 86 } : Room) (va_Pc [.ref (w.2.2.1 v0)] (mc_B mc_k 152 w I R)) (mc_Q none (mc_B mc_k 152 w Iz R) (mc_A 152 w)) 0 0 (mc_A 152 w) := by
  refine Met.ofW (cc := cX5_passOneSecond) (maxL := 6) (ret := none) (by decide) rfl ?_
  intro p e s m args below meth c s₁ B hml hv
  obtain ⟨rfl, hP, K⟩ := hv
  have hown : s.vm.findClass RX5 = some m.cls := findClass_of_methodNamed B.named
  have C : CallFix p m c cX5_passOneSecond 6 s _ mc_big RX5 := ⟨B.exec, B.bytes, hml, hown, fun w hw => atoms_spec B.pre w (List.mem_cons_of_mem _ hw)⟩
  have hx := C.1
  have hb := C.2.1
  have hC := And.intro C.1 C.2.1
  have hr := B.returns
  have hlk := B.notSynchronized
  have hS : va_S (mc_A 152 w) s.heap s.heap [] := va_S.rf
  have hl := lv_entry ([.ref (w.2.2.1 v0)]) (n := 6) (Nat.le_of_ble_eq_true rfl)
  rw [lg_entry_eq]
  generalize (lg_sl ([.ref (w.2.2.1 v0)]) ++ List.replicate (6 - (lg_sl ([.ref (w.2.2.1 v0)])).length) Slot.unset).toArray = ls at hl ⊢
  have hl : lv_has ls 6 [(0, .ref (w.2.2.1 v0))] := hl
  unfold mi_X5_passOneSecond at h
  refine lv_aload_n hx hb dX5_passOneSecond_0 rfl (lv_at hl 0 rfl) ?_
  refine lv_dup hx hb dX5_passOneSecond_1 rfl ?_
  refine mf_X5_59 C K hP kv0 dX5_passOneSecond_2 ?_
  refine lv_iconst (v := 1) hx hb dX5_passOneSecond_5 (by decide) ?_
  refine lv_iadd hx hb dX5_passOneSecond_6 ?_
  obtain ⟨I1, eI1, h⟩ := mc_bn_e h
  refine mp_X5_59 C K hP hS kv0 eI1 dX5_passOneSecond_7 (fun H locs hP hS => ?_)
  refine lv_aload_n hx hb dX5_passOneSecond_10 rfl (lv_at hl 0 rfl) ?_
  refine mf_X5_12 C K hP kv0 dX5_passOneSecond_11 ?_
  refine mg_Vz (As := []) (rest := []) (ct_X1_isSticking l (w := w) (I := I1) (R := R) (kk_5_1 kv0) rfl) C K hP hS hl.1 (kk_5_1 kv0) (by decide) rfl rfl ml_X5_170 wy_X1_isSticking wd_X1_isSticking rfl rfl rfl ⟨Nat.le_of_ble_eq_true rfl, Nat.le_of_ble_eq_true rfl⟩ (Nat.le_of_ble_eq_true rfl) ⟨Nat.zero_le _, Nat.zero_le _⟩ dX5_passOneSecond_14 (fun H locs hP z3 hS => ?_)
  refine lv_if_eq (tgt := 21) hx hb dX5_passOneSecond_17 (by decide) (fun c4 => ?_) (fun c4 => ?_)
  · replace h := mc_it h c4
    refine lv_iconst (v := 0) hx hb dX5_passOneSecond_21 (by decide) ?_
    refine lv_istore_n (i := 1) (lv' := [(1, .int 0), (0, .ref (w.2.2.1 v0))]) hx hb dX5_passOneSecond_22 rfl hl (by decide) rfl (fun ls hl => ?_)
    refine lv_iconst (v := 0) hx hb dX5_passOneSecond_23 (by decide) ?_
    refine lv_istore_n (i := 2) (lv' := [(2, .int 0), (1, .int 0), (0, .ref (w.2.2.1 v0))]) hx hb dX5_passOneSecond_24 rfl hl (by decide) rfl (fun ls hl => ?_)
    exact bk_X5_passOneSecond_L25 C hr hlk K  F I1 v0 0 0 h kv0 hP hS (lv_sub hl [2, 1, 0] rfl)
  · replace h := mc_ie h c4
    cases h
    exact mt_v hC hr hlk K hP hS dX5_passOneSecond_20
set_option maxHeartbeats 4000000 in
set_option maxRecDepth 100000 in
theorem bk_X5_letPass_B46 {p : Program} {l : Launch} {e : Env} {s : State} {m : MethodId} {args : Array Value} {below : List Frame} {meth : Method} {c : Code} (C : CallFix p m c cX5_letPass 5 s args mc_big RX5) (hr : meth.sig.returnType = (some .int)) (hlk : meth.locks = false) {w : mc_w} (K : mc_K mc_k 152 w s) {R : Nat → Nat → Option Nat} {F : Nat} {Iz : Nat → Nat → Int32} {rz : Int32} {k46 : (Nat → Nat → Int32) → (Nat → Nat → Option Nat) → Nat → Int32 → Int32 → Int32 → Int32 → (Option ((Nat → Nat → Int32) × Int32))} (hk46 : ∀ (I : Nat → Nat → Int32) (v0 : Nat) (v1 : Int32) (v2 : Int32) (v3 : Int32) (v4 : Int32), k46 I R v0 v1 v2 v3 v4 = some (Iz, rz) → (mc_k v0 = 5) → ∀ {H : Heap} {locs : List Loc} {ls : Array Slot}, mc_P mc_k 152 w I R H → va_S (mc_A 152 w) s.heap H locs → lv_has ls 5 [(0, .ref (w.2.2.1 v0)), (1, .int v1), (2, .int v2), (3, .int v3), (4, .int v4)] → W p l e ({ frames := 5, cells := 0, slots := 0, locals := 111 } : Room) s m args below meth c H locs 0 0 (MQ below (mc_Q (some (.int rz)) (mc_B mc_k 152 w Iz R) (mc_A 152 w)) args s 0 0 (mc_A 152 w)) (F0 m 46 ls [])) : ∀ (I : Nat → Nat → Int32) (v0 : Nat) (v1 : Int32) (v2 : Int32) (v3 : Int32) (v4 : Int32), mi_X5_letPass_B46 k46 F I R v0 v1 v2 v3 v4 = some (Iz, rz) → (mc_k v0 = 5) → ∀ {H : Heap} {locs : List Loc} {ls : Array Slot}, mc_P mc_k 152 w I R H → va_S (mc_A 152 w) s.heap H locs → lv_has ls 5 [(0, .ref (w.2.2.1 v0)), (1, .int v1), (2, .int v2), (3, .int v3), (4, .int v4)] → W p l e ({ frames := 5, cells := 0, slots := 0, locals := 111 } : Room) s m args below meth c H locs 0 0 (MQ below (mc_Q (some (.int rz)) (mc_B mc_k 152 w Iz R) (mc_A 152 w)) args s 0 0 (mc_A 152 w)) (F0 m 46 ls []) := by
  intro I v0 v1 v2 v3 v4 h kv0 H locs ls hP hS hl
  have hx := C.1
  have hb := C.2.1
  have hC := And.intro C.1 C.2.1
  unfold mi_X5_letPass_B46 at h
  refine lv_iload hx hb dX5_letPass_46 (lv_at hl 4 rfl) ?_
  refine lv_iload_n hx hb dX5_letPass_48 rfl (lv_at hl 1 rfl) ?_
  refine lv_icmp_ge (tgt := 82) hx hb dX5_letPass_49 (by decide) (fun c7 => ?_) (fun c7 => ?_)
  · replace h := mc_it h c7
    refine lv_aload_n hx hb dX5_letPass_82 rfl (lv_at hl 0 rfl) ?_
    obtain ⟨r8, e9, h⟩ := mc_ob_e h
    refine mg_Vi (As := []) (rest := []) (ct_X5_shutBottles l (w := w) (I := I) (R := R) kv0 e9) C K hP hS hl.1 kv0 (by decide) rfl rfl ml_X5_117 wy_X5_shutBottles wd_X5_shutBottles rfl rfl rfl ⟨Nat.le_of_ble_eq_true rfl, Nat.le_of_ble_eq_true rfl⟩ (Nat.le_of_ble_eq_true rfl) ⟨Nat.zero_le _, Nat.zero_le _⟩ dX5_letPass_83 (fun H locs hP hS => ?_)
    refine lv_iload_n hx hb dX5_letPass_86 rfl (lv_at hl 2 rfl) ?_
    refine lv_isub hx hb dX5_letPass_87 ?_
    cases h
    exact mt_i hC hr hlk K hP hS dX5_letPass_88
  · replace h := mc_ie h c7
    refine lv_aload_n hx hb dX5_letPass_52 rfl (lv_at hl 0 rfl) ?_
    refine mf_X5_59 C K hP kv0 dX5_letPass_53 ?_
    refine lv_iload_n hx hb dX5_letPass_56 rfl (lv_at hl 3 rfl) ?_
    refine lv_icmp_ge (tgt := 82) hx hb dX5_letPass_57 (by decide) (fun c10 => ?_) (fun c10 => ?_)
    · replace h := mc_it h c10
      refine lv_aload_n hx hb dX5_letPass_82 rfl (lv_at hl 0 rfl) ?_
      obtain ⟨r11, e12, h⟩ := mc_ob_e h
      refine mg_Vi (As := []) (rest := []) (ct_X5_shutBottles l (w := w) (I := I) (R := R) kv0 e12) C K hP hS hl.1 kv0 (by decide) rfl rfl ml_X5_117 wy_X5_shutBottles wd_X5_shutBottles rfl rfl rfl ⟨Nat.le_of_ble_eq_true rfl, Nat.le_of_ble_eq_true rfl⟩ (Nat.le_of_ble_eq_true rfl) ⟨Nat.zero_le _, Nat.zero_le _⟩ dX5_letPass_83 (fun H locs hP hS => ?_)
      refine lv_iload_n hx hb dX5_letPass_86 rfl (lv_at hl 2 rfl) ?_
      refine lv_isub hx hb dX5_letPass_87 ?_
      cases h
      exact mt_i hC hr hlk K hP hS dX5_letPass_88
    · replace h := mc_ie h c10
      refine lv_aload_n hx hb dX5_letPass_60 rfl (lv_at hl 0 rfl) ?_
      refine lv_iload_n hx hb dX5_letPass_61 rfl (lv_at hl 3 rfl) ?_
      refine lv_aload_n hx hb dX5_letPass_62 rfl (lv_at hl 0 rfl) ?_
      refine mf_X5_59 C K hP kv0 dX5_letPass_63 ?_
      refine lv_isub hx hb dX5_letPass_66 ?_
      refine lv_iconst (v := 1) hx hb dX5_letPass_67 (by decide) ?_
      refine lv_isub hx hb dX5_letPass_68 ?_
      obtain ⟨I13, e14, h⟩ := mc_ob_e h
      refine mg_Vv (As := [.int ((v3 - (I v0 5)) - 1)]) (rest := []) (ct_X5_skipQuietSeconds l (w := w) (I := I) (R := R) kv0 e14) C K hP hS hl.1 kv0 (by decide) rfl rfl ml_X5_120 wy_X5_skipQuietSeconds wd_X5_skipQuietSeconds rfl rfl rfl ⟨Nat.le_of_ble_eq_true rfl, Nat.le_of_ble_eq_true rfl⟩ (Nat.le_of_ble_eq_true rfl) ⟨Nat.zero_le _, Nat.zero_le _⟩ dX5_letPass_69 (fun H locs hP hS => ?_)
      refine lv_aload_n hx hb dX5_letPass_72 rfl (lv_at hl 0 rfl) ?_
      obtain ⟨I15, e16, h⟩ := mc_ob_e h
      refine mg_Vv (As := []) (rest := []) (ct_X5_passOneSecond l (w := w) (I := I13) (R := R) kv0 e16) C K hP hS hl.1 kv0 (by decide) rfl rfl ml_X5_124 wy_X5_passOneSecond wd_X5_passOneSecond rfl rfl rfl ⟨Nat.le_of_ble_eq_true rfl, Nat.le_of_ble_eq_true rfl⟩ (Nat.le_of_ble_eq_true rfl) ⟨Nat.zero_le _, Nat.zero_le _⟩ dX5_letPass_73 (fun H locs hP hS => ?_)
      obtain ⟨x17, ex17, h⟩ := mc_bn_e h
      refine lv_iinc (v := x17) (lv' := [(4, .int x17), (0, .ref (w.2.2.1 v0)), (1, .int v1), (2, .int v2), (3, .int v3)]) hx hb dX5_letPass_76 hl (k := 4) rfl (by rw [ex17]; rfl) (by decide) rfl (fun ls hl => ?_)
      refine lv_goto (tgt := 46) hx hb dX5_letPass_79 (by decide) ?_
      exact hk46 I15 v0 v1 v2 v3 x17 h kv0 hP hS (lv_sub hl [1, 2, 3, 4, 0] rfl)
theorem bk_X5_letPass_L46 {p : Program} {l : Launch} {e : Env} {s : State} {m : MethodId} {args : Array Value} {below : List Frame} {meth : Method} {c : Code} (C : CallFix p m c cX5_letPass 5 s args mc_big RX5) (hr : meth.sig.returnType = (some .int)) (hlk : meth.locks = false) {w : mc_w} (K : mc_K mc_k 152 w s) {R : Nat → Nat → Option Nat} {F : Nat} {Iz : Nat → Nat → Int32} {rz : Int32} : ∀ n : Nat, ∀ (I : Nat → Nat → Int32) (v0 : Nat) (v1 : Int32) (v2 : Int32) (v3 : Int32) (v4 : Int32), mi_X5_letPass_L46 F n I R v0 v1 v2 v3 v4 = some (Iz, rz) → (mc_k v0 = 5) → ∀ {H : Heap} {locs : List Loc} {ls : Array Slot}, mc_P mc_k 152 w I R H → va_S (mc_A 152 w) s.heap H locs → lv_has ls 5 [(0, .ref (w.2.2.1 v0)), (1, .int v1), (2, .int v2), (3, .int v3), (4, .int v4)] → W p l e ({ frames := 5, cells := 0, slots := 0, locals := 111 } : Room) s m args below meth c H locs 0 0 (MQ below (mc_Q (some (.int rz)) (mc_B mc_k 152 w Iz R) (mc_A 152 w)) args s 0 0 (mc_A 152 w)) (F0 m 46 ls []) := by
  intro n
  induction n with
  | zero =>
    intro I v0 v1 v2 v3 v4 h
    cases h
  | succ n ih =>
    intro I v0 v1 v2 v3 v4 h
    exact bk_X5_letPass_B46 C hr hlk K  ih I v0 v1 v2 v3 v4 h
set_option maxHeartbeats 4000000 in
set_option maxRecDepth 100000 in
theorem ct_X5_letPass (l : Launch) {w : mc_w} {I : Nat → Nat → Int32} {R : Nat → Nat → Option Nat} {F : Nat} {v0 : Nat} {v1 : Int32} (kv0 : mc_k v0 = 5) {Iz : Nat → Nat → Int32} {rz : Int32} (h : mi_X5_letPass F I R v0 v1 = some (Iz, rz)) : Met l yX5_letPass (Cond.code yX5_letPass cX5_letPass 5 (some .int) :: mc_big) ({ frames := 5, cells := 0, slots := 0, locals := 111 } : Room) (va_Pc [.ref (w.2.2.1 v0), .int v1] (mc_B mc_k 152 w I R)) (mc_Q (some (.int rz)) (mc_B mc_k 152 w Iz R) (mc_A 152 w)) 0 0 (mc_A 152 w) := by
  refine Met.ofW (cc := cX5_letPass) (maxL := 5) (ret := (some .int)) (by decide) rfl ?_
  intro p e s m args below meth c s₁ B hml hv
  obtain ⟨rfl, hP, K⟩ := hv
  have hown : s.vm.findClass RX5 = some m.cls := findClass_of_methodNamed B.named
  have C : CallFix p m c cX5_letPass 5 s _ mc_big RX5 := ⟨B.exec, B.bytes, hml, hown, fun w hw => atoms_spec B.pre w (List.mem_cons_of_mem _ hw)⟩
  have hx := C.1
  have hb := C.2.1
  have hC := And.intro C.1 C.2.1
  have hr := B.returns
  have hlk := B.notSynchronized
  have hS : va_S (mc_A 152 w) s.heap s.heap [] := va_S.rf
  have hl := lv_entry ([.ref (w.2.2.1 v0), .int v1]) (n := 5) (Nat.le_of_ble_eq_true rfl)
  rw [lg_entry_eq]
  generalize (lg_sl ([.ref (w.2.2.1 v0), .int v1]) ++ List.replicate (5 - (lg_sl ([.ref (w.2.2.1 v0), .int v1])).length) Slot.unset).toArray = ls at hl ⊢
  have hl : lv_has ls 5 [(0, .ref (w.2.2.1 v0)), (1, .int v1)] := hl
  unfold mi_X5_letPass at h
  refine lv_iload_n hx hb dX5_letPass_0 rfl (lv_at hl 1 rfl) ?_
  refine lv_iconst (v := 1) hx hb dX5_letPass_1 (by decide) ?_
  refine lv_icmp_lt (tgt := 12) hx hb dX5_letPass_2 (by decide) (fun c1 => ?_) (fun c1 => ?_)
  · replace h := mc_it h c1
    refine lv_sipush (v := (-1002)) hx hb dX5_letPass_12 (by decide) ?_
    cases h
    exact mt_i hC hr hlk K hP hS dX5_letPass_15
  · replace h := mc_ie h c1
    refine lv_iload_n hx hb dX5_letPass_5 rfl (lv_at hl 1 rfl) ?_
    refine lv_sipush (v := 999) hx hb dX5_letPass_6 (by decide) ?_
    refine lv_icmp_le (tgt := 16) hx hb dX5_letPass_9 (by decide) (fun c2 => ?_) (fun c2 => ?_)
    · replace h := mc_it h c2
      refine lv_aload_n hx hb dX5_letPass_16 rfl (lv_at hl 0 rfl) ?_
      refine mf_X5_59 C K hP kv0 dX5_letPass_17 ?_
      refine lv_iload_n hx hb dX5_letPass_20 rfl (lv_at hl 1 rfl) ?_
      refine lv_iadd hx hb dX5_letPass_21 ?_
      refine lv_ldc hx hb C.2.2.2.1 (C.2.2.2.2 _ wk_X5_116) dX5_letPass_22 ?_
      refine lv_icmp_le (tgt := 31) hx hb dX5_letPass_24 (by decide) (fun c3 => ?_) (fun c3 => ?_)
      · replace h := mc_it h c3
        refine lv_aload_n hx hb dX5_letPass_31 rfl (lv_at hl 0 rfl) ?_
        obtain ⟨r4, e5, h⟩ := mc_ob_e h
        refine mg_Vi (As := []) (rest := []) (ct_X5_shutBottles l (w := w) (I := I) (R := R) kv0 e5) C K hP hS hl.1 kv0 (by decide) rfl rfl ml_X5_117 wy_X5_shutBottles wd_X5_shutBottles rfl rfl rfl ⟨Nat.le_of_ble_eq_true rfl, Nat.le_of_ble_eq_true rfl⟩ (Nat.le_of_ble_eq_true rfl) ⟨Nat.zero_le _, Nat.zero_le _⟩ dX5_letPass_32 (fun H locs hP hS => ?_)
        refine lv_istore_n (i := 2) (lv' := [(2, .int r4), (0, .ref (w.2.2.1 v0)), (1, .int v1)]) hx hb dX5_letPass_35 rfl hl (by decide) rfl (fun ls hl => ?_)
        refine lv_aload_n hx hb dX5_letPass_36 rfl (lv_at hl 1 rfl) ?_
        refine mf_X5_59 C K hP kv0 dX5_letPass_37 ?_
        refine lv_iload_n hx hb dX5_letPass_40 rfl (lv_at hl 2 rfl) ?_
        refine lv_iadd hx hb dX5_letPass_41 ?_
        obtain ⟨x6, ex6, h⟩ := mc_bn_e h
        refine mv_top ex6 ?_
        refine lv_istore_n (i := 3) (lv' := [(3, .int x6), (2, .int r4), (0, .ref (w.2.2.1 v0)), (1, .int v1)]) hx hb dX5_letPass_42 rfl hl (by decide) rfl (fun ls hl => ?_)
        refine lv_iconst (v := 0) hx hb dX5_letPass_43 (by decide) ?_
        refine lv_istore (i := 4) (lv' := [(4, .int 0), (3, .int x6), (2, .int r4), (0, .ref (w.2.2.1 v0)), (1, .int v1)]) hx hb dX5_letPass_44 hl (by decide) rfl (fun ls hl => ?_)
        exact bk_X5_letPass_L46 C hr hlk K  F I v0 v1 r4 x6 0 h kv0 hP hS (lv_sub hl [3, 4, 2, 1, 0] rfl)
      · replace h := mc_ie h c3
        refine lv_sipush (v := (-1003)) hx hb dX5_letPass_27 (by decide) ?_
        cases h
        exact mt_i hC hr hlk K hP hS dX5_letPass_30
    · replace h := mc_ie h c2
      refine lv_sipush (v := (-1002)) hx hb dX5_letPass_12 (by decide) ?_
      cases h
      exact mt_i hC hr hlk K hP hS dX5_letPass_15
set_option maxHeartbeats 4000000 in
set_option maxRecDepth 100000 in
theorem bk_X5_changeSetting_J56 {p : Program} {l : Launch} {e : Env} {s : State} {m : MethodId} {args : Array Value} {below : List Frame} {meth : Method} {c : Code} (C : CallFix p m c cX5_changeSetting 5 s args mc_big RX5) (hr : meth.sig.returnType = (some .int)) (hlk : meth.locks = false) {w : mc_w} (K : mc_K mc_k 152 w s) {R : Nat → Nat → Option Nat} {Iz : Nat → Nat → Int32} {rz : Int32} : ∀ (I : Nat → Nat → Int32) (v0 : Nat) (v1 : Int32) (v2 : Int32) (s0 : Int32), mi_X5_changeSetting_J56 I v0 v1 v2 s0 = (Iz, rz) → (mc_k v0 = 5) → ∀ {H : Heap} {locs : List Loc} {ls : Array Slot}, mc_P mc_k 152 w I R H → va_S (mc_A 152 w) s.heap H locs → lv_has ls 5 [(0, .ref (w.2.2.1 v0)), (1, .int v1), (2, .int v2)] → W p l e ({ frames := 0, cells := 0, slots := 0, locals := 0 } : Room) s m args below meth c H locs 0 0 (MQ below (mc_Q (some (.int rz)) (mc_B mc_k 152 w Iz R) (mc_A 152 w)) args s 0 0 (mc_A 152 w)) (F0 m 56 ls [.int s0]) := by
  intro I v0 v1 v2 s0 h kv0 H locs ls hP hS hl
  have hx := C.1
  have hb := C.2.1
  have hC := And.intro C.1 C.2.1
  unfold mi_X5_changeSetting_J56 at h
  refine lv_istore (i := 4) (lv' := [(4, .int s0), (0, .ref (w.2.2.1 v0)), (1, .int v1), (2, .int v2)]) hx hb dX5_changeSetting_56 hl (by decide) rfl (fun ls hl => ?_)
  refine lv_iload hx hb dX5_changeSetting_58 (lv_at hl 0 rfl) ?_
  refine lv_iload_n hx hb dX5_changeSetting_60 rfl (lv_at hl 3 rfl) ?_
  refine lv_icmp_ne (tgt := 68) hx hb dX5_changeSetting_61 (by decide) (fun c6 => ?_) (fun c6 => ?_)
  · replace h := mc_ie h c6
    refine lv_iload_n hx hb dX5_changeSetting_68 rfl (lv_at hl 2 rfl) ?_
    refine lv_iconst (v := 1) hx hb dX5_changeSetting_69 (by decide) ?_
    refine lv_icmp_ne (tgt := 81) hx hb dX5_changeSetting_70 (by decide) (fun c7 => ?_) (fun c7 => ?_)
    · replace h := mc_ie h c7
      refine lv_aload_n hx hb dX5_changeSetting_81 rfl (lv_at hl 1 rfl) ?_
      refine lv_iload_n hx hb dX5_changeSetting_82 rfl (lv_at hl 3 rfl) ?_
      obtain ⟨I8, eI8, h⟩ := mc_bn_e h
      refine mp_X5_38 C K hP hS kv0 eI8 dX5_changeSetting_83 (fun H locs hP hS => ?_)
      refine lv_iload hx hb dX5_changeSetting_86 (lv_at hl 0 rfl) ?_
      cases h
      exact mt_i hC hr hlk K hP hS dX5_changeSetting_88
    · replace h := mc_it h c7
      refine lv_aload_n hx hb dX5_changeSetting_73 rfl (lv_at hl 1 rfl) ?_
      refine lv_iload_n hx hb dX5_changeSetting_74 rfl (lv_at hl 3 rfl) ?_
      obtain ⟨I9, eI9, h⟩ := mc_bn_e h
      refine mp_X5_42 C K hP hS kv0 eI9 dX5_changeSetting_75 (fun H locs hP hS => ?_)
      refine lv_goto (tgt := 86) hx hb dX5_changeSetting_78 (by decide) ?_
      refine lv_iload hx hb dX5_changeSetting_86 (lv_at hl 0 rfl) ?_
      cases h
      exact mt_i hC hr hlk K hP hS dX5_changeSetting_88
  · replace h := mc_it h c6
    refine lv_sipush (v := (-1005)) hx hb dX5_changeSetting_64 (by decide) ?_
    cases h
    exact mt_i hC hr hlk K hP hS dX5_changeSetting_67
set_option maxHeartbeats 4000000 in
set_option maxRecDepth 100000 in
theorem bk_X5_changeSetting_J23 {p : Program} {l : Launch} {e : Env} {s : State} {m : MethodId} {args : Array Value} {below : List Frame} {meth : Method} {c : Code} (C : CallFix p m c cX5_changeSetting 5 s args mc_big RX5) (hr : meth.sig.returnType = (some .int)) (hlk : meth.locks = false) {w : mc_w} (K : mc_K mc_k 152 w s) {R : Nat → Nat → Option Nat} {Iz : Nat → Nat → Int32} {rz : Int32} : ∀ (I : Nat → Nat → Int32) (v0 : Nat) (v1 : Int32) (v2 : Int32) (s0 : Int32), mi_X5_changeSetting_J23 I v0 v1 v2 s0 = (Iz, rz) → (mc_k v0 = 5) → ∀ {H : Heap} {locs : List Loc} {ls : Array Slot}, mc_P mc_k 152 w I R H → va_S (mc_A 152 w) s.heap H locs → lv_has ls 5 [(0, .ref (w.2.2.1 v0)), (1, .int v1), (2, .int v2)] → W p l e ({ frames := 0, cells := 0, slots := 0, locals := 0 } : Room) s m args below meth c H locs 0 0 (MQ below (mc_Q (some (.int rz)) (mc_B mc_k 152 w Iz R) (mc_A 152 w)) args s 0 0 (mc_A 152 w)) (F0 m 23 ls [.int s0]) := by
  intro I v0 v1 v2 s0 h kv0 H locs ls hP hS hl
  have hx := C.1
  have hb := C.2.1
  have hC := And.intro C.1 C.2.1
  unfold mi_X5_changeSetting_J23 at h
  refine lv_istore_n (i := 3) (lv' := [(3, .int s0), (0, .ref (w.2.2.1 v0)), (1, .int v1), (2, .int v2)]) hx hb dX5_changeSetting_23 rfl hl (by decide) rfl (fun ls hl => ?_)
  refine lv_iload_n hx hb dX5_changeSetting_24 rfl (lv_at hl 3 rfl) ?_
  refine lv_iload_n hx hb dX5_changeSetting_25 rfl (lv_at hl 0 rfl) ?_
  refine lv_icmp_lt (tgt := 36) hx hb dX5_changeSetting_26 (by decide) (fun c3 => ?_) (fun c3 => ?_)
  · replace h := mc_it h c3
    refine lv_sipush (v := (-1002)) hx hb dX5_changeSetting_36 (by decide) ?_
    cases h
    exact mt_i hC hr hlk K hP hS dX5_changeSetting_39
  · replace h := mc_ie h c3
    refine lv_iload_n hx hb dX5_changeSetting_29 rfl (lv_at hl 3 rfl) ?_
    refine lv_sipush (v := 999) hx hb dX5_changeSetting_30 (by decide) ?_
    refine lv_icmp_le (tgt := 40) hx hb dX5_changeSetting_33 (by decide) (fun c4 => ?_) (fun c4 => ?_)
    · replace h := mc_it h c4
      refine lv_iload_n hx hb dX5_changeSetting_40 rfl (lv_at hl 2 rfl) ?_
      refine lv_iconst (v := 1) hx hb dX5_changeSetting_41 (by decide) ?_
      refine lv_icmp_ne (tgt := 52) hx hb dX5_changeSetting_42 (by decide) (fun c5 => ?_) (fun c5 => ?_)
      · replace h := mc_ie h c5
        refine lv_aload_n hx hb dX5_changeSetting_52 rfl (lv_at hl 1 rfl) ?_
        refine mf_X5_38 C K hP kv0 dX5_changeSetting_53 ?_
        exact bk_X5_changeSetting_J56 C hr hlk K  I v0 v1 v2 (I v0 6) h kv0 hP hS (lv_sub hl [1, 2, 3] rfl)
      · replace h := mc_it h c5
        refine lv_aload_n hx hb dX5_changeSetting_45 rfl (lv_at hl 1 rfl) ?_
        refine mf_X5_42 C K hP kv0 dX5_changeSetting_46 ?_
        refine lv_goto (tgt := 56) hx hb dX5_changeSetting_49 (by decide) ?_
        exact bk_X5_changeSetting_J56 C hr hlk K  I v0 v1 v2 (I v0 7) h kv0 hP hS (lv_sub hl [1, 2, 3] rfl)
    · replace h := mc_ie h c4
      refine lv_sipush (v := (-1002)) hx hb dX5_changeSetting_36 (by decide) ?_
      cases h
      exact mt_i hC hr hlk K hP hS dX5_changeSetting_39
set_option maxHeartbeats 4000000 in
set_option maxRecDepth 100000 in
theorem bk_X5_changeSetting_J13 {p : Program} {l : Launch} {e : Env} {s : State} {m : MethodId} {args : Array Value} {below : List Frame} {meth : Method} {c : Code} (C : CallFix p m c cX5_changeSetting 5 s args mc_big RX5) (hr : meth.sig.returnType = (some .int)) (hlk : meth.locks = false) {w : mc_w} (K : mc_K mc_k 152 w s) {R : Nat → Nat → Option Nat} {Iz : Nat → Nat → Int32} {rz : Int32} : ∀ (I : Nat → Nat → Int32) (v0 : Nat) (v1 : Int32) (v2 : Int32), mi_X5_changeSetting_J13 I v0 v1 v2 = (Iz, rz) → (mc_k v0 = 5) → ∀ {H : Heap} {locs : List Loc} {ls : Array Slot}, mc_P mc_k 152 w I R H → va_S (mc_A 152 w) s.heap H locs → lv_has ls 5 [(0, .ref (w.2.2.1 v0)), (1, .int v1), (2, .int v2)] → W p l e ({ frames := 0, cells := 0, slots := 0, locals := 0 } : Room) s m args below meth c H locs 0 0 (MQ below (mc_Q (some (.int rz)) (mc_B mc_k 152 w Iz R) (mc_A 152 w)) args s 0 0 (mc_A 152 w)) (F0 m 13 ls []) := by
  intro I v0 v1 v2 h kv0 H locs ls hP hS hl
  have hx := C.1
  have hb := C.2.1
  have hC := And.intro C.1 C.2.1
  unfold mi_X5_changeSetting_J13 at h
  refine lv_iload_n hx hb dX5_changeSetting_13 rfl (lv_at hl 1 rfl) ?_
  refine lv_iconst (v := 1) hx hb dX5_changeSetting_14 (by decide) ?_
  refine lv_icmp_ne (tgt := 22) hx hb dX5_changeSetting_15 (by decide) (fun c2 => ?_) (fun c2 => ?_)
  · replace h := mc_ie h c2
    refine lv_iconst (v := 0) hx hb dX5_changeSetting_22 (by decide) ?_
    exact bk_X5_changeSetting_J23 C hr hlk K  I v0 v1 v2 0 h kv0 hP hS (lv_sub hl [0, 1, 2] rfl)
  · replace h := mc_it h c2
    refine lv_iconst (v := 1) hx hb dX5_changeSetting_18 (by decide) ?_
    refine lv_goto (tgt := 23) hx hb dX5_changeSetting_19 (by decide) ?_
    exact bk_X5_changeSetting_J23 C hr hlk K  I v0 v1 v2 1 h kv0 hP hS (lv_sub hl [0, 1, 2] rfl)
set_option maxHeartbeats 4000000 in
set_option maxRecDepth 100000 in
theorem ct_X5_changeSetting (l : Launch) {w : mc_w} {I : Nat → Nat → Int32} {R : Nat → Nat → Option Nat} {v0 : Nat} {v1 : Int32} {v2 : Int32} (kv0 : mc_k v0 = 5) {Iz : Nat → Nat → Int32} {rz : Int32} (h : mi_X5_changeSetting I v0 v1 v2 = (Iz, rz)) : Met l yX5_changeSetting (Cond.code yX5_changeSetting cX5_changeSetting 5 (some .int) :: mc_big) ({ frames := 0, cells := 0, slots := 0, locals := 0 } : Room) (va_Pc [.ref (w.2.2.1 v0), .int v1, .int v2] (mc_B mc_k 152 w I R)) (mc_Q (some (.int rz)) (mc_B mc_k 152 w Iz R) (mc_A 152 w)) 0 0 (mc_A 152 w) := by
  refine Met.ofW (cc := cX5_changeSetting) (maxL := 5) (ret := (some .int)) (by decide) rfl ?_
  intro p e s m args below meth c s₁ B hml hv
  obtain ⟨rfl, hP, K⟩ := hv
  have hown : s.vm.findClass RX5 = some m.cls := findClass_of_methodNamed B.named
  have C : CallFix p m c cX5_changeSetting 5 s _ mc_big RX5 := ⟨B.exec, B.bytes, hml, hown, fun w hw => atoms_spec B.pre w (List.mem_cons_of_mem _ hw)⟩
  have hx := C.1
  have hb := C.2.1
  have hC := And.intro C.1 C.2.1
  have hr := B.returns
  have hlk := B.notSynchronized
  have hS : va_S (mc_A 152 w) s.heap s.heap [] := va_S.rf
  have hl := lv_entry ([.ref (w.2.2.1 v0), .int v1, .int v2]) (n := 5) (Nat.le_of_ble_eq_true rfl)
  rw [lg_entry_eq]
  generalize (lg_sl ([.ref (w.2.2.1 v0), .int v1, .int v2]) ++ List.replicate (5 - (lg_sl ([.ref (w.2.2.1 v0), .int v1, .int v2])).length) Slot.unset).toArray = ls at hl ⊢
  have hl : lv_has ls 5 [(0, .ref (w.2.2.1 v0)), (1, .int v1), (2, .int v2)] := hl
  unfold mi_X5_changeSetting at h
  refine lv_iload_n hx hb dX5_changeSetting_0 rfl (lv_at hl 1 rfl) ?_
  refine lv_if_eq (tgt := 13) hx hb dX5_changeSetting_1 (by decide) (fun c1 => ?_) (fun c1 => ?_)
  · replace h := mc_it h c1
    exact bk_X5_changeSetting_J13 C hr hlk K  I v0 v1 v2 h kv0 hP hS (lv_sub hl [0, 1, 2] rfl)
  · replace h := mc_ie h c1
    refine lv_iload_n hx hb dX5_changeSetting_4 rfl (lv_at hl 1 rfl) ?_
    refine lv_iconst (v := 1) hx hb dX5_changeSetting_5 (by decide) ?_
    refine lv_icmp_eq (tgt := 13) hx hb dX5_changeSetting_6 (by decide) (fun c10 => ?_) (fun c10 => ?_)
    · replace h := mc_it h c10
      exact bk_X5_changeSetting_J13 C hr hlk K  I v0 v1 v2 h kv0 hP hS (lv_sub hl [0, 1, 2] rfl)
    · replace h := mc_ie h c10
      refine lv_sipush (v := (-1001)) hx hb dX5_changeSetting_9 (by decide) ?_
      cases h
      exact mt_i hC hr hlk K hP hS dX5_changeSetting_12
set_option maxHeartbeats 4000000 in
set_option maxRecDepth 100000 in
theorem bk_X5_runUntilShut_B14 {p : Program} {l : Launch} {e : Env} {s : State} {m : MethodId} {args : Array Value} {below : List Frame} {meth : Method} {c : Code} (C : CallFix p m c cX5_runUntilShut 5 s args mc_big RX5) (hr : meth.sig.returnType = (some .int)) (hlk : meth.locks = false) {w : mc_w} (K : mc_K mc_k 152 w s) {R : Nat → Nat → Option Nat} {F : Nat} {Iz : Nat → Nat → Int32} {rz : Int32} {k14 : (Nat → Nat → Int32) → (Nat → Nat → Option Nat) → Nat → Option Nat → Int32 → Int32 → (Option ((Nat → Nat → Int32) × Int32))} (hk14 : ∀ (I : Nat → Nat → Int32) (v0 : Nat) (v2 : Option Nat) (v3 : Int32) (v4 : Int32), k14 I R v0 v2 v3 v4 = some (Iz, rz) → (mc_k v0 = 5) → (∀ b, v2 = some b → mc_k b = 0) → ∀ {H : Heap} {locs : List Loc} {ls : Array Slot}, mc_P mc_k 152 w I R H → va_S (mc_A 152 w) s.heap H locs → lv_has ls 5 [(0, .ref (w.2.2.1 v0)), (2, va_re w.2.2.1 v2), (3, .int v3), (4, .int v4)] → W p l e ({ frames := 5, cells := 0, slots := 0, locals := 111 } : Room) s m args below meth c H locs 0 0 (MQ below (mc_Q (some (.int rz)) (mc_B mc_k 152 w Iz R) (mc_A 152 w)) args s 0 0 (mc_A 152 w)) (F0 m 14 ls [])) : ∀ (I : Nat → Nat → Int32) (v0 : Nat) (v2 : Option Nat) (v3 : Int32) (v4 : Int32), mi_X5_runUntilShut_B14 k14 F I R v0 v2 v3 v4 = some (Iz, rz) → (mc_k v0 = 5) → (∀ b, v2 = some b → mc_k b = 0) → ∀ {H : Heap} {locs : List Loc} {ls : Array Slot}, mc_P mc_k 152 w I R H → va_S (mc_A 152 w) s.heap H locs → lv_has ls 5 [(0, .ref (w.2.2.1 v0)), (2, va_re w.2.2.1 v2), (3, .int v3), (4, .int v4)] → W p l e ({ frames := 5, cells := 0, slots := 0, locals := 111 } : Room) s m args below meth c H locs 0 0 (MQ below (mc_Q (some (.int rz)) (mc_B mc_k 152 w Iz R) (mc_A 152 w)) args s 0 0 (mc_A 152 w)) (F0 m 14 ls []) := by
  intro I v0 v2 v3 v4 h kv0 tv2 H locs ls hP hS hl
  have hx := C.1
  have hb := C.2.1
  have hC := And.intro C.1 C.2.1
  unfold mi_X5_runUntilShut_B14 at h
  refine lv_iload hx hb dX5_runUntilShut_14 (lv_at hl 3 rfl) ?_
  refine lv_sipush (v := 2000) hx hb dX5_runUntilShut_16 (by decide) ?_
  refine lv_icmp_ge (tgt := 77) hx hb dX5_runUntilShut_19 (by decide) (fun c4 => ?_) (fun c4 => ?_)
  · replace h := mc_it h c4
    refine lv_sipush (v := (-1005)) hx hb dX5_runUntilShut_77 (by decide) ?_
    cases h
    exact mt_i hC hr hlk K hP hS dX5_runUntilShut_80
  · replace h := mc_ie h c4
    refine lv_aload_n hx hb dX5_runUntilShut_22 rfl (lv_at hl 0 rfl) ?_
    refine mf_X5_28 C K hP kv0 dX5_runUntilShut_23 ?_
    refine mf_X5_106 C K hP (kk_5_5 kv0) dX5_runUntilShut_26 ?_
    refine lv_if_le (tgt := 77) hx hb dX5_runUntilShut_29 (by decide) (fun c5 => ?_) (fun c5 => ?_)
    · replace h := mc_it h c5
      refine lv_sipush (v := (-1005)) hx hb dX5_runUntilShut_77 (by decide) ?_
      cases h
      exact mt_i hC hr hlk K hP hS dX5_runUntilShut_80
    · replace h := mc_ie h c5
      refine lv_aload_n hx hb dX5_runUntilShut_32 rfl (lv_at hl 0 rfl) ?_
      refine mf_X5_12 C K hP kv0 dX5_runUntilShut_33 ?_
      refine mg_Vz (As := []) (rest := []) (ct_X1_isSticking l (w := w) (I := I) (R := R) (kk_5_1 kv0) rfl) C K hP hS hl.1 (kk_5_1 kv0) (by decide) rfl rfl ml_X5_170 wy_X1_isSticking wd_X1_isSticking rfl rfl rfl ⟨Nat.le_of_ble_eq_true rfl, Nat.le_of_ble_eq_true rfl⟩ (Nat.le_of_ble_eq_true rfl) ⟨Nat.zero_le _, Nat.zero_le _⟩ dX5_runUntilShut_36 (fun H locs hP z7 hS => ?_)
      refine lv_if_ne (tgt := 77) hx hb dX5_runUntilShut_39 (by decide) (fun c8 => ?_) (fun c8 => ?_)
      · replace h := mc_ie h c8
        refine lv_sipush (v := (-1005)) hx hb dX5_runUntilShut_77 (by decide) ?_
        cases h
        exact mt_i hC hr hlk K hP hS dX5_runUntilShut_80
      · replace h := mc_it h c8
        refine lv_aload_n hx hb dX5_runUntilShut_42 rfl (lv_at hl 0 rfl) ?_
        refine lv_sipush (v := 2000) hx hb dX5_runUntilShut_43 (by decide) ?_
        obtain ⟨I9, e10, h⟩ := mc_ob_e h
        refine mg_Vv (As := [.int 2000]) (rest := []) (ct_X5_skipQuietSeconds l (w := w) (I := I) (R := R) kv0 e10) C K hP hS hl.1 kv0 (by decide) rfl rfl ml_X5_120 wy_X5_skipQuietSeconds wd_X5_skipQuietSeconds rfl rfl rfl ⟨Nat.le_of_ble_eq_true rfl, Nat.le_of_ble_eq_true rfl⟩ (Nat.le_of_ble_eq_true rfl) ⟨Nat.zero_le _, Nat.zero_le _⟩ dX5_runUntilShut_46 (fun H locs hP hS => ?_)
        refine lv_aload_n hx hb dX5_runUntilShut_49 rfl (lv_at hl 0 rfl) ?_
        obtain ⟨I11, e12, h⟩ := mc_ob_e h
        refine mg_Vv (As := []) (rest := []) (ct_X5_passOneSecond l (w := w) (I := I9) (R := R) kv0 e12) C K hP hS hl.1 kv0 (by decide) rfl rfl ml_X5_124 wy_X5_passOneSecond wd_X5_passOneSecond rfl rfl rfl ⟨Nat.le_of_ble_eq_true rfl, Nat.le_of_ble_eq_true rfl⟩ (Nat.le_of_ble_eq_true rfl) ⟨Nat.zero_le _, Nat.zero_le _⟩ dX5_runUntilShut_50 (fun H locs hP hS => ?_)
        refine mv_aload_n hC dX5_runUntilShut_53 rfl (lv_at hl 1 rfl) ?_
        rcases v2 with _ | b13
        · replace h := mc_om_n h
          refine lv_ifnullN (tgt := 71) hx hb dX5_runUntilShut_54 (by decide) ?_
          have hl : lv_has ls 5 [(0, .ref (w.2.2.1 v0)), (2, va_re w.2.2.1 none), (3, .int v3), (4, .int v4)] := hl
          obtain ⟨x14, ex14, h⟩ := mc_bn_e h
          refine lv_iinc (v := x14) (lv' := [(4, .int x14), (0, .ref (w.2.2.1 v0)), (2, va_re w.2.2.1 none), (3, .int v3)]) hx hb dX5_runUntilShut_71 hl (k := 3) rfl (by rw [ex14]; rfl) (by decide) rfl (fun ls hl => ?_)
          refine lv_goto (tgt := 14) hx hb dX5_runUntilShut_74 (by decide) ?_
          exact hk14 I11 v0 none v3 x14 h kv0 (fun _ h => nomatch h) hP hS (lv_sub hl [1, 2, 3, 0] rfl)
        · replace h := mc_om_s h
          have kb13 := tv2 b13 rfl
          refine lv_ifnull hx hb dX5_runUntilShut_54 ?_
          have hl : lv_has ls 5 [(0, .ref (w.2.2.1 v0)), (2, .ref (w.2.2.1 b13)), (3, .int v3), (4, .int v4)] := hl
          refine lv_aload_n hx hb dX5_runUntilShut_57 rfl (lv_at hl 1 rfl) ?_
          refine mf_X5_130 C K hP kb13 dX5_runUntilShut_58 ?_
          refine lv_if_eq (tgt := 71) hx hb dX5_runUntilShut_61 (by decide) (fun c15 => ?_) (fun c15 => ?_)
          · replace h := mc_it h c15
            obtain ⟨x16, ex16, h⟩ := mc_bn_e h
            refine lv_iinc (v := x16) (lv' := [(4, .int x16), (0, .ref (w.2.2.1 v0)), (2, .ref (w.2.2.1 b13)), (3, .int v3)]) hx hb dX5_runUntilShut_71 hl (k := 3) rfl (by rw [ex16]; rfl) (by decide) rfl (fun ls hl => ?_)
            refine lv_goto (tgt := 14) hx hb dX5_runUntilShut_74 (by decide) ?_
            exact hk14 I11 v0 (some b13) v3 x16 h kv0 (fun b hb => by cases hb; exact kb13) hP hS (lv_sub hl [1, 2, 3, 0] rfl)
          · replace h := mc_ie h c15
            refine lv_aload_n hx hb dX5_runUntilShut_64 rfl (lv_at hl 0 rfl) ?_
            refine mf_X5_59 C K hP kv0 dX5_runUntilShut_65 ?_
            refine lv_iload_n hx hb dX5_runUntilShut_68 rfl (lv_at hl 2 rfl) ?_
            refine lv_isub hx hb dX5_runUntilShut_69 ?_
            cases h
            exact mt_i hC hr hlk K hP hS dX5_runUntilShut_70
theorem bk_X5_runUntilShut_L14 {p : Program} {l : Launch} {e : Env} {s : State} {m : MethodId} {args : Array Value} {below : List Frame} {meth : Method} {c : Code} (C : CallFix p m c cX5_runUntilShut 5 s args mc_big RX5) (hr : meth.sig.returnType = (some .int)) (hlk : meth.locks = false) {w : mc_w} (K : mc_K mc_k 152 w s) {R : Nat → Nat → Option Nat} {F : Nat} {Iz : Nat → Nat → Int32} {rz : Int32} : ∀ n : Nat, ∀ (I : Nat → Nat → Int32) (v0 : Nat) (v2 : Option Nat) (v3 : Int32) (v4 : Int32), mi_X5_runUntilShut_L14 F n I R v0 v2 v3 v4 = some (Iz, rz) → (mc_k v0 = 5) → (∀ b, v2 = some b → mc_k b = 0) → ∀ {H : Heap} {locs : List Loc} {ls : Array Slot}, mc_P mc_k 152 w I R H → va_S (mc_A 152 w) s.heap H locs → lv_has ls 5 [(0, .ref (w.2.2.1 v0)), (2, va_re w.2.2.1 v2), (3, .int v3), (4, .int v4)] → W p l e ({ frames := 5, cells := 0, slots := 0, locals := 111 } : Room) s m args below meth c H locs 0 0 (MQ below (mc_Q (some (.int rz)) (mc_B mc_k 152 w Iz R) (mc_A 152 w)) args s 0 0 (mc_A 152 w)) (F0 m 14 ls []) := by
  intro n
  induction n with
  | zero =>
    intro I v0 v2 v3 v4 h
    cases h
  | succ n ih =>
    intro I v0 v2 v3 v4 h
    exact bk_X5_runUntilShut_B14 C hr hlk K  ih I v0 v2 v3 v4 h
set_option maxHeartbeats 4000000 in
set_option maxRecDepth 100000 in
theorem ct_X5_runUntilShut (l : Launch) {w : mc_w} {I : Nat → Nat → Int32} {R : Nat → Nat → Option Nat} {F : Nat} {v0 : Nat} {v1 : Int32} (kv0 : mc_k v0 = 5) {Iz : Nat → Nat → Int32} {rz : Int32} (h : mi_X5_runUntilShut F I R v0 v1 = some (Iz, rz)) : Met l yX5_runUntilShut (Cond.code yX5_runUntilShut cX5_runUntilShut 5 (some .int) :: mc_big) ({ frames := 5, cells := 0, slots := 0, locals := 111 } : Room) (va_Pc [.ref (w.2.2.1 v0), .int v1] (mc_B mc_k 152 w I R)) (mc_Q (some (.int rz)) (mc_B mc_k 152 w Iz R) (mc_A 152 w)) 0 0 (mc_A 152 w) := by
  refine Met.ofW (cc := cX5_runUntilShut) (maxL := 5) (ret := (some .int)) (by decide) rfl ?_
  intro p e s m args below meth c s₁ B hml hv
  obtain ⟨rfl, hP, K⟩ := hv
  have hown : s.vm.findClass RX5 = some m.cls := findClass_of_methodNamed B.named
  have C : CallFix p m c cX5_runUntilShut 5 s _ mc_big RX5 := ⟨B.exec, B.bytes, hml, hown, fun w hw => atoms_spec B.pre w (List.mem_cons_of_mem _ hw)⟩
  have hx := C.1
  have hb := C.2.1
  have hC := And.intro C.1 C.2.1
  have hr := B.returns
  have hlk := B.notSynchronized
  have hS : va_S (mc_A 152 w) s.heap s.heap [] := va_S.rf
  have hl := lv_entry ([.ref (w.2.2.1 v0), .int v1]) (n := 5) (Nat.le_of_ble_eq_true rfl)
  rw [lg_entry_eq]
  generalize (lg_sl ([.ref (w.2.2.1 v0), .int v1]) ++ List.replicate (5 - (lg_sl ([.ref (w.2.2.1 v0), .int v1])).length) Slot.unset).toArray = ls at hl ⊢
  have hl : lv_has ls 5 [(0, .ref (w.2.2.1 v0)), (1, .int v1)] := hl
  unfold mi_X5_runUntilShut at h
  refine lv_aload_n hx hb dX5_runUntilShut_0 rfl (lv_at hl 0 rfl) ?_
  refine lv_iload_n hx hb dX5_runUntilShut_1 rfl (lv_at hl 1 rfl) ?_
  obtain ⟨r1, e2, h⟩ := mc_ob_e h
  refine mg_Vr (As := [.int v1]) (rest := []) (ct_X5_bottleAt l (w := w) (I := I) (R := R) kv0 e2) C K hP hS hl.1 kv0 (by decide) rfl rfl ml_X5_62 wy_X5_bottleAt wd_X5_bottleAt rfl rfl rfl ⟨Nat.le_of_ble_eq_true rfl, Nat.le_of_ble_eq_true rfl⟩ (Nat.le_of_ble_eq_true rfl) ⟨Nat.zero_le _, Nat.zero_le _⟩ dX5_runUntilShut_2 (fun H locs hP tr1 hS => ?_)
  refine mv_astore_n (i := 2) (lv' := [(2, va_re w.2.2.1 r1), (0, .ref (w.2.2.1 v0)), (1, .int v1)]) hC dX5_runUntilShut_5 rfl hl (by decide) rfl (fun ls hl => ?_)
  refine lv_aload_n hx hb dX5_runUntilShut_6 rfl (lv_at hl 1 rfl) ?_
  refine mf_X5_59 C K hP kv0 dX5_runUntilShut_7 ?_
  obtain ⟨x3, ex3, h⟩ := mc_bn_e h
  refine mv_top ex3 ?_
  refine lv_istore_n (i := 3) (lv' := [(3, .int x3), (2, va_re w.2.2.1 r1), (0, .ref (w.2.2.1 v0)), (1, .int v1)]) hx hb dX5_runUntilShut_10 rfl hl (by decide) (by simp [mv_cat]) (fun ls hl => ?_)
  refine lv_iconst (v := 0) hx hb dX5_runUntilShut_11 (by decide) ?_
  refine lv_istore (i := 4) (lv' := [(4, .int 0), (3, .int x3), (2, va_re w.2.2.1 r1), (0, .ref (w.2.2.1 v0)), (1, .int v1)]) hx hb dX5_runUntilShut_12 hl (by decide) rfl (fun ls hl => ?_)
  exact bk_X5_runUntilShut_L14 C hr hlk K  F I v0 r1 x3 0 h kv0 tr1 hP hS (lv_sub hl [3, 2, 1, 0] rfl)
set_option maxHeartbeats 4000000 in
set_option maxRecDepth 100000 in
theorem bk_X5_runUntilQuiet_B7 {p : Program} {l : Launch} {e : Env} {s : State} {m : MethodId} {args : Array Value} {below : List Frame} {meth : Method} {c : Code} (C : CallFix p m c cX5_runUntilQuiet 3 s args mc_big RX5) (hr : meth.sig.returnType = (some .int)) (hlk : meth.locks = false) {w : mc_w} (K : mc_K mc_k 152 w s) {R : Nat → Nat → Option Nat} {F : Nat} {Iz : Nat → Nat → Int32} {rz : Int32} {k7 : (Nat → Nat → Int32) → (Nat → Nat → Option Nat) → Nat → Int32 → Int32 → (Option ((Nat → Nat → Int32) × Int32))} (hk7 : ∀ (I : Nat → Nat → Int32) (v0 : Nat) (v1 : Int32) (v2 : Int32), k7 I R v0 v1 v2 = some (Iz, rz) → (mc_k v0 = 5) → ∀ {H : Heap} {locs : List Loc} {ls : Array Slot}, mc_P mc_k 152 w I R H → va_S (mc_A 152 w) s.heap H locs → lv_has ls 3 [(0, .ref (w.2.2.1 v0)), (1, .int v1), (2, .int v2)] → W p l e ({ frames := 5, cells := 0, slots := 0, locals := 111 } : Room) s m args below meth c H locs 0 0 (MQ below (mc_Q (some (.int rz)) (mc_B mc_k 152 w Iz R) (mc_A 152 w)) args s 0 0 (mc_A 152 w)) (F0 m 7 ls [])) : ∀ (I : Nat → Nat → Int32) (v0 : Nat) (v1 : Int32) (v2 : Int32), mi_X5_runUntilQuiet_B7 k7 F I R v0 v1 v2 = some (Iz, rz) → (mc_k v0 = 5) → ∀ {H : Heap} {locs : List Loc} {ls : Array Slot}, mc_P mc_k 152 w I R H → va_S (mc_A 152 w) s.heap H locs → lv_has ls 3 [(0, .ref (w.2.2.1 v0)), (1, .int v1), (2, .int v2)] → W p l e ({ frames := 5, cells := 0, slots := 0, locals := 111 } : Room) s m args below meth c H locs 0 0 (MQ below (mc_Q (some (.int rz)) (mc_B mc_k 152 w Iz R) (mc_A 152 w)) args s 0 0 (mc_A 152 w)) (F0 m 7 ls []) := by
  intro I v0 v1 v2 h kv0 H locs ls hP hS hl
  have hx := C.1
  have hb := C.2.1
  have hC := And.intro C.1 C.2.1
  unfold mi_X5_runUntilQuiet_B7 at h
  refine lv_iload_n hx hb dX5_runUntilQuiet_7 rfl (lv_at hl 2 rfl) ?_
  refine lv_sipush (v := 2000) hx hb dX5_runUntilQuiet_8 (by decide) ?_
  refine lv_icmp_ge (tgt := 51) hx hb dX5_runUntilQuiet_11 (by decide) (fun c2 => ?_) (fun c2 => ?_)
  · replace h := mc_it h c2
    refine lv_aload_n hx hb dX5_runUntilQuiet_51 rfl (lv_at hl 0 rfl) ?_
    refine mf_X5_59 C K hP kv0 dX5_runUntilQuiet_52 ?_
    refine lv_iload_n hx hb dX5_runUntilQuiet_55 rfl (lv_at hl 1 rfl) ?_
    refine lv_isub hx hb dX5_runUntilQuiet_56 ?_
    cases h
    exact mt_i hC hr hlk K hP hS dX5_runUntilQuiet_57
  · replace h := mc_ie h c2
    refine lv_aload_n hx hb dX5_runUntilQuiet_14 rfl (lv_at hl 0 rfl) ?_
    refine mf_X5_28 C K hP kv0 dX5_runUntilQuiet_15 ?_
    refine mf_X5_106 C K hP (kk_5_5 kv0) dX5_runUntilQuiet_18 ?_
    refine lv_if_le (tgt := 51) hx hb dX5_runUntilQuiet_21 (by decide) (fun c3 => ?_) (fun c3 => ?_)
    · replace h := mc_it h c3
      refine lv_aload_n hx hb dX5_runUntilQuiet_51 rfl (lv_at hl 0 rfl) ?_
      refine mf_X5_59 C K hP kv0 dX5_runUntilQuiet_52 ?_
      refine lv_iload_n hx hb dX5_runUntilQuiet_55 rfl (lv_at hl 1 rfl) ?_
      refine lv_isub hx hb dX5_runUntilQuiet_56 ?_
      cases h
      exact mt_i hC hr hlk K hP hS dX5_runUntilQuiet_57
    · replace h := mc_ie h c3
      refine lv_aload_n hx hb dX5_runUntilQuiet_24 rfl (lv_at hl 0 rfl) ?_
      refine mf_X5_12 C K hP kv0 dX5_runUntilQuiet_25 ?_
      refine mg_Vz (As := []) (rest := []) (ct_X1_isSticking l (w := w) (I := I) (R := R) (kk_5_1 kv0) rfl) C K hP hS hl.1 (kk_5_1 kv0) (by decide) rfl rfl ml_X5_170 wy_X1_isSticking wd_X1_isSticking rfl rfl rfl ⟨Nat.le_of_ble_eq_true rfl, Nat.le_of_ble_eq_true rfl⟩ (Nat.le_of_ble_eq_true rfl) ⟨Nat.zero_le _, Nat.zero_le _⟩ dX5_runUntilQuiet_28 (fun H locs hP z5 hS => ?_)
      refine lv_if_ne (tgt := 51) hx hb dX5_runUntilQuiet_31 (by decide) (fun c6 => ?_) (fun c6 => ?_)
      · replace h := mc_ie h c6
        refine lv_aload_n hx hb dX5_runUntilQuiet_51 rfl (lv_at hl 0 rfl) ?_
        refine mf_X5_59 C K hP kv0 dX5_runUntilQuiet_52 ?_
        refine lv_iload_n hx hb dX5_runUntilQuiet_55 rfl (lv_at hl 1 rfl) ?_
        refine lv_isub hx hb dX5_runUntilQuiet_56 ?_
        cases h
        exact mt_i hC hr hlk K hP hS dX5_runUntilQuiet_57
      · replace h := mc_it h c6
        refine lv_aload_n hx hb dX5_runUntilQuiet_34 rfl (lv_at hl 0 rfl) ?_
        refine lv_sipush (v := 2000) hx hb dX5_runUntilQuiet_35 (by decide) ?_
        obtain ⟨I7, e8, h⟩ := mc_ob_e h
        refine mg_Vv (As := [.int 2000]) (rest := []) (ct_X5_skipQuietSeconds l (w := w) (I := I) (R := R) kv0 e8) C K hP hS hl.1 kv0 (by decide) rfl rfl ml_X5_120 wy_X5_skipQuietSeconds wd_X5_skipQuietSeconds rfl rfl rfl ⟨Nat.le_of_ble_eq_true rfl, Nat.le_of_ble_eq_true rfl⟩ (Nat.le_of_ble_eq_true rfl) ⟨Nat.zero_le _, Nat.zero_le _⟩ dX5_runUntilQuiet_38 (fun H locs hP hS => ?_)
        refine lv_aload_n hx hb dX5_runUntilQuiet_41 rfl (lv_at hl 0 rfl) ?_
        obtain ⟨I9, e10, h⟩ := mc_ob_e h
        refine mg_Vv (As := []) (rest := []) (ct_X5_passOneSecond l (w := w) (I := I7) (R := R) kv0 e10) C K hP hS hl.1 kv0 (by decide) rfl rfl ml_X5_124 wy_X5_passOneSecond wd_X5_passOneSecond rfl rfl rfl ⟨Nat.le_of_ble_eq_true rfl, Nat.le_of_ble_eq_true rfl⟩ (Nat.le_of_ble_eq_true rfl) ⟨Nat.zero_le _, Nat.zero_le _⟩ dX5_runUntilQuiet_42 (fun H locs hP hS => ?_)
        obtain ⟨x11, ex11, h⟩ := mc_bn_e h
        refine lv_iinc (v := x11) (lv' := [(2, .int x11), (0, .ref (w.2.2.1 v0)), (1, .int v1)]) hx hb dX5_runUntilQuiet_45 hl (k := 2) rfl (by rw [ex11]; rfl) (by decide) rfl (fun ls hl => ?_)
        refine lv_goto (tgt := 7) hx hb dX5_runUntilQuiet_48 (by decide) ?_
        exact hk7 I9 v0 v1 x11 h kv0 hP hS (lv_sub hl [1, 2, 0] rfl)
theorem bk_X5_runUntilQuiet_L7 {p : Program} {l : Launch} {e : Env} {s : State} {m : MethodId} {args : Array Value} {below : List Frame} {meth : Method} {c : Code} (C : CallFix p m c cX5_runUntilQuiet 3 s args mc_big RX5) (hr : meth.sig.returnType = (some .int)) (hlk : meth.locks = false) {w : mc_w} (K : mc_K mc_k 152 w s) {R : Nat → Nat → Option Nat} {F : Nat} {Iz : Nat → Nat → Int32} {rz : Int32} : ∀ n : Nat, ∀ (I : Nat → Nat → Int32) (v0 : Nat) (v1 : Int32) (v2 : Int32), mi_X5_runUntilQuiet_L7 F n I R v0 v1 v2 = some (Iz, rz) → (mc_k v0 = 5) → ∀ {H : Heap} {locs : List Loc} {ls : Array Slot}, mc_P mc_k 152 w I R H → va_S (mc_A 152 w) s.heap H locs → lv_has ls 3 [(0, .ref (w.2.2.1 v0)), (1, .int v1), (2, .int v2)] → W p l e ({ frames := 5, cells := 0, slots := 0, locals := 111 } : Room) s m args below meth c H locs 0 0 (MQ below (mc_Q (some (.int rz)) (mc_B mc_k 152 w Iz R) (mc_A 152 w)) args s 0 0 (mc_A 152 w)) (F0 m 7 ls []) := by
  intro n
  induction n with
  | zero =>
    intro I v0 v1 v2 h
    cases h
  | succ n ih =>
    intro I v0 v1 v2 h
    exact bk_X5_runUntilQuiet_B7 C hr hlk K  ih I v0 v1 v2 h
set_option maxHeartbeats 4000000 in
set_option maxRecDepth 100000 in
theorem ct_X5_runUntilQuiet (l : Launch) {w : mc_w} {I : Nat → Nat → Int32} {R : Nat → Nat → Option Nat} {F : Nat} {v0 : Nat} (kv0 : mc_k v0 = 5) {Iz : Nat → Nat → Int32} {rz : Int32} (h : mi_X5_runUntilQuiet F I R v0 = some (Iz, rz)) : Met l yX5_runUntilQuiet (Cond.code yX5_runUntilQuiet cX5_runUntilQuiet 3 (some .int) :: mc_big) ({ frames := 5, cells := 0, slots := 0, locals := 111 } : Room) (va_Pc [.ref (w.2.2.1 v0)] (mc_B mc_k 152 w I R)) (mc_Q (some (.int rz)) (mc_B mc_k 152 w Iz R) (mc_A 152 w)) 0 0 (mc_A 152 w) := by
  refine Met.ofW (cc := cX5_runUntilQuiet) (maxL := 3) (ret := (some .int)) (by decide) rfl ?_
  intro p e s m args below meth c s₁ B hml hv
  obtain ⟨rfl, hP, K⟩ := hv
  have hown : s.vm.findClass RX5 = some m.cls := findClass_of_methodNamed B.named
  have C : CallFix p m c cX5_runUntilQuiet 3 s _ mc_big RX5 := ⟨B.exec, B.bytes, hml, hown, fun w hw => atoms_spec B.pre w (List.mem_cons_of_mem _ hw)⟩
  have hx := C.1
  have hb := C.2.1
  have hC := And.intro C.1 C.2.1
  have hr := B.returns
  have hlk := B.notSynchronized
  have hS : va_S (mc_A 152 w) s.heap s.heap [] := va_S.rf
  have hl := lv_entry ([.ref (w.2.2.1 v0)]) (n := 3) (Nat.le_of_ble_eq_true rfl)
  rw [lg_entry_eq]
  generalize (lg_sl ([.ref (w.2.2.1 v0)]) ++ List.replicate (3 - (lg_sl ([.ref (w.2.2.1 v0)])).length) Slot.unset).toArray = ls at hl ⊢
  have hl : lv_has ls 3 [(0, .ref (w.2.2.1 v0))] := hl
  unfold mi_X5_runUntilQuiet at h
  refine lv_aload_n hx hb dX5_runUntilQuiet_0 rfl (lv_at hl 0 rfl) ?_
  refine mf_X5_59 C K hP kv0 dX5_runUntilQuiet_1 ?_
  obtain ⟨x1, ex1, h⟩ := mc_bn_e h
  refine mv_top ex1 ?_
  refine lv_istore_n (i := 1) (lv' := [(1, .int x1), (0, .ref (w.2.2.1 v0))]) hx hb dX5_runUntilQuiet_4 rfl hl (by decide) rfl (fun ls hl => ?_)
  refine lv_iconst (v := 0) hx hb dX5_runUntilQuiet_5 (by decide) ?_
  refine lv_istore_n (i := 2) (lv' := [(2, .int 0), (1, .int x1), (0, .ref (w.2.2.1 v0))]) hx hb dX5_runUntilQuiet_6 rfl hl (by decide) rfl (fun ls hl => ?_)
  exact bk_X5_runUntilQuiet_L7 C hr hlk K  F I v0 x1 0 h kv0 hP hS (lv_sub hl [2, 1, 0] rfl)
set_option maxHeartbeats 4000000 in
set_option maxRecDepth 100000 in
theorem ct_X5_isDoubtful (l : Launch) {w : mc_w} {I : Nat → Nat → Int32} {R : Nat → Nat → Option Nat} {v0 : Nat} {v1 : Nat} (kv0 : mc_k v0 = 5) (kv1 : mc_k v1 = 0) {rz : Int32} (h : mi_X5_isDoubtful I v0 v1 = rz) : Met l yX5_isDoubtful (Cond.code yX5_isDoubtful cX5_isDoubtful 2 (some .boolean) :: mc_big) ({ frames := 2, cells := 0, slots := 0, locals := 41 } : Room) (va_Pc [.ref (w.2.2.1 v0), .ref (w.2.2.1 v1)] (mc_B mc_k 152 w I R)) (mc_Q (some (.int rz)) (fun t => mc_B mc_k 152 w I R t ∧ ¬ (rz ≠ 0 ∧ rz ≠ 1)) (mc_A 152 w)) 0 0 (mc_A 152 w) := by
  refine Met.ofW (cc := cX5_isDoubtful) (maxL := 2) (ret := (some .boolean)) (by decide) rfl ?_
  intro p e s m args below meth c s₁ B hml hv
  obtain ⟨rfl, hP, K⟩ := hv
  have hown : s.vm.findClass RX5 = some m.cls := findClass_of_methodNamed B.named
  have C : CallFix p m c cX5_isDoubtful 2 s _ mc_big RX5 := ⟨B.exec, B.bytes, hml, hown, fun w hw => atoms_spec B.pre w (List.mem_cons_of_mem _ hw)⟩
  have hx := C.1
  have hb := C.2.1
  have hC := And.intro C.1 C.2.1
  have hr := B.returns
  have hlk := B.notSynchronized
  have hS : va_S (mc_A 152 w) s.heap s.heap [] := va_S.rf
  have hl := lv_entry ([.ref (w.2.2.1 v0), .ref (w.2.2.1 v1)]) (n := 2) (Nat.le_of_ble_eq_true rfl)
  rw [lg_entry_eq]
  generalize (lg_sl ([.ref (w.2.2.1 v0), .ref (w.2.2.1 v1)]) ++ List.replicate (2 - (lg_sl ([.ref (w.2.2.1 v0), .ref (w.2.2.1 v1)])).length) Slot.unset).toArray = ls at hl ⊢
  have hl : lv_has ls 2 [(0, .ref (w.2.2.1 v0)), (1, .ref (w.2.2.1 v1))] := hl
  unfold mi_X5_isDoubtful at h
  refine lv_aload_n hx hb dX5_isDoubtful_0 rfl (lv_at hl 1 rfl) ?_
  refine mf_X5_130 C K hP kv1 dX5_isDoubtful_1 ?_
  refine lv_if_eq (tgt := 22) hx hb dX5_isDoubtful_4 (by decide) (fun c1 => ?_) (fun c1 => ?_)
  · replace h := mc_it h c1
    refine lv_iconst (v := 0) hx hb dX5_isDoubtful_22 (by decide) ?_
    cases h
    exact mt_zX hC hr hlk K hP hS (by decide) (by decide) dX5_isDoubtful_23
  · replace h := mc_ie h c1
    refine lv_aload_n hx hb dX5_isDoubtful_7 rfl (lv_at hl 1 rfl) ?_
    refine mg_Vi (As := []) (rest := []) (ct_X0_difference l (w := w) (I := I) (R := R) kv1 rfl) C K hP hS hl.1 kv1 (by decide) rfl rfl ml_X5_215 wy_X0_difference wd_X0_difference rfl rfl rfl ⟨Nat.le_of_ble_eq_true rfl, Nat.le_of_ble_eq_true rfl⟩ (Nat.le_of_ble_eq_true rfl) ⟨Nat.zero_le _, Nat.zero_le _⟩ dX5_isDoubtful_8 (fun H locs hP hS => ?_)
    refine lv_aload_n hx hb dX5_isDoubtful_11 rfl (lv_at hl 0 rfl) ?_
    refine mf_X5_38 C K hP kv0 dX5_isDoubtful_12 ?_
    refine lv_icmp_le (tgt := 22) hx hb dX5_isDoubtful_15 (by decide) (fun c3 => ?_) (fun c3 => ?_)
    · replace h := mc_it h c3
      refine lv_iconst (v := 0) hx hb dX5_isDoubtful_22 (by decide) ?_
      cases h
      exact mt_zX hC hr hlk K hP hS (by decide) (by decide) dX5_isDoubtful_23
    · replace h := mc_ie h c3
      refine lv_iconst (v := 1) hx hb dX5_isDoubtful_18 (by decide) ?_
      refine lv_goto (tgt := 23) hx hb dX5_isDoubtful_19 (by decide) ?_
      cases h
      exact mt_zX hC hr hlk K hP hS (by decide) (by decide) dX5_isDoubtful_23
set_option maxHeartbeats 4000000 in
set_option maxRecDepth 100000 in
theorem bk_X5_bottlesInWater_B4 {p : Program} {l : Launch} {e : Env} {s : State} {m : MethodId} {args : Array Value} {below : List Frame} {meth : Method} {c : Code} (C : CallFix p m c cX5_bottlesInWater 4 s args mc_big RX5) (hr : meth.sig.returnType = (some .int)) (hlk : meth.locks = false) {w : mc_w} (K : mc_K mc_k 152 w s) {I : Nat → Nat → Int32} {R : Nat → Nat → Option Nat} {F : Nat} {rz : Int32} {k4 : (Nat → Nat → Int32) → (Nat → Nat → Option Nat) → Nat → Int32 → Int32 → Option (Int32)} (hk4 : ∀ (v0 : Nat) (v1 : Int32) (v2 : Int32), k4 I R v0 v1 v2 = some rz → (mc_k v0 = 5) → ∀ {H : Heap} {locs : List Loc} {ls : Array Slot}, mc_P mc_k 152 w I R H → va_S (mc_A 152 w) s.heap H locs → lv_has ls 4 [(0, .ref (w.2.2.1 v0)), (1, .int v1), (2, .int v2)] → W p l e ({ frames := 1, cells := 0, slots := 0, locals := 21 } : Room) s m args below meth c H locs 0 0 (MQ below (mc_Q (some (.int rz)) (mc_B mc_k 152 w I R) (mc_A 152 w)) args s 0 0 (mc_A 152 w)) (F0 m 4 ls [])) : ∀ (v0 : Nat) (v1 : Int32) (v2 : Int32), mi_X5_bottlesInWater_B4 k4 F I R v0 v1 v2 = some rz → (mc_k v0 = 5) → ∀ {H : Heap} {locs : List Loc} {ls : Array Slot}, mc_P mc_k 152 w I R H → va_S (mc_A 152 w) s.heap H locs → lv_has ls 4 [(0, .ref (w.2.2.1 v0)), (1, .int v1), (2, .int v2)] → W p l e ({ frames := 1, cells := 0, slots := 0, locals := 21 } : Room) s m args below meth c H locs 0 0 (MQ below (mc_Q (some (.int rz)) (mc_B mc_k 152 w I R) (mc_A 152 w)) args s 0 0 (mc_A 152 w)) (F0 m 4 ls []) := by
  intro v0 v1 v2 h kv0 H locs ls hP hS hl
  have hx := C.1
  have hb := C.2.1
  have hC := And.intro C.1 C.2.1
  unfold mi_X5_bottlesInWater_B4 at h
  refine lv_iload_n hx hb dX5_bottlesInWater_4 rfl (lv_at hl 2 rfl) ?_
  refine lv_aload_n hx hb dX5_bottlesInWater_5 rfl (lv_at hl 0 rfl) ?_
  refine mf_X5_56 C K hP kv0 dX5_bottlesInWater_6 ?_
  refine lv_icmp_ge (tgt := 45) hx hb dX5_bottlesInWater_9 (by decide) (fun c1 => ?_) (fun c1 => ?_)
  · replace h := mc_it h c1
    refine lv_iload_n hx hb dX5_bottlesInWater_45 rfl (lv_at hl 1 rfl) ?_
    cases h
    exact mt_i hC hr hlk K hP hS dX5_bottlesInWater_46
  · replace h := mc_ie h c1
    refine lv_aload_n hx hb dX5_bottlesInWater_12 rfl (lv_at hl 0 rfl) ?_
    refine lv_iload_n hx hb dX5_bottlesInWater_13 rfl (lv_at hl 2 rfl) ?_
    obtain ⟨r2, e3, h⟩ := mc_ob_e h
    refine mg_Vr (As := [.int v2]) (rest := []) (ct_X5_bottleAt l (w := w) (I := I) (R := R) kv0 e3) C K hP hS hl.1 kv0 (by decide) rfl rfl ml_X5_62 wy_X5_bottleAt wd_X5_bottleAt rfl rfl rfl ⟨Nat.le_of_ble_eq_true rfl, Nat.le_of_ble_eq_true rfl⟩ (Nat.le_of_ble_eq_true rfl) ⟨Nat.zero_le _, Nat.zero_le _⟩ dX5_bottlesInWater_14 (fun H locs hP tr2 hS => ?_)
    refine mv_astore_n (i := 3) (lv' := [(3, va_re w.2.2.1 r2), (0, .ref (w.2.2.1 v0)), (1, .int v1), (2, .int v2)]) hC dX5_bottlesInWater_17 rfl hl (by decide) rfl (fun ls hl => ?_)
    refine mv_aload_n hC dX5_bottlesInWater_18 rfl (lv_at hl 0 rfl) ?_
    rcases r2 with _ | b4
    · replace h := mc_om_n h
      refine lv_ifnullN (tgt := 39) hx hb dX5_bottlesInWater_19 (by decide) ?_
      have hl : lv_has ls 4 [(3, va_re w.2.2.1 none), (0, .ref (w.2.2.1 v0)), (1, .int v1), (2, .int v2)] := hl
      obtain ⟨x5, ex5, h⟩ := mc_bn_e h
      refine lv_iinc (v := x5) (lv' := [(2, .int x5), (3, va_re w.2.2.1 none), (0, .ref (w.2.2.1 v0)), (1, .int v1)]) hx hb dX5_bottlesInWater_39 hl (k := 3) rfl (by rw [ex5]; rfl) (by decide) rfl (fun ls hl => ?_)
      refine lv_goto (tgt := 4) hx hb dX5_bottlesInWater_42 (by decide) ?_
      exact hk4 v0 v1 x5 h kv0 hP hS (lv_sub hl [2, 3, 0] rfl)
    · replace h := mc_om_s h
      have kb4 := tr2 b4 rfl
      refine lv_ifnull hx hb dX5_bottlesInWater_19 ?_
      have hl : lv_has ls 4 [(3, .ref (w.2.2.1 b4)), (0, .ref (w.2.2.1 v0)), (1, .int v1), (2, .int v2)] := hl
      refine lv_aload_n hx hb dX5_bottlesInWater_22 rfl (lv_at hl 1 rfl) ?_
      refine mf_X5_12 C K hP kv0 dX5_bottlesInWater_23 ?_
      refine lv_aload_n hx hb dX5_bottlesInWater_26 rfl (lv_at hl 0 rfl) ?_
      refine mf_X5_95 C K hP kb4 dX5_bottlesInWater_27 ?_
      refine mg_Vz (As := [.int (I b4 0)]) (rest := []) (ct_X1_isInWater l (w := w) (I := I) (R := R) (kk_5_1 kv0) rfl) C K hP hS hl.1 (kk_5_1 kv0) (by decide) rfl rfl ml_X5_102 wy_X1_isInWater wd_X1_isInWater rfl rfl rfl ⟨Nat.le_of_ble_eq_true rfl, Nat.le_of_ble_eq_true rfl⟩ (Nat.le_of_ble_eq_true rfl) ⟨Nat.zero_le _, Nat.zero_le _⟩ dX5_bottlesInWater_30 (fun H locs hP z7 hS => ?_)
      refine lv_if_eq (tgt := 39) hx hb dX5_bottlesInWater_33 (by decide) (fun c8 => ?_) (fun c8 => ?_)
      · replace h := mc_it h c8
        obtain ⟨x9, ex9, h⟩ := mc_bn_e h
        refine lv_iinc (v := x9) (lv' := [(2, .int x9), (3, .ref (w.2.2.1 b4)), (0, .ref (w.2.2.1 v0)), (1, .int v1)]) hx hb dX5_bottlesInWater_39 hl (k := 3) rfl (by rw [ex9]; rfl) (by decide) rfl (fun ls hl => ?_)
        refine lv_goto (tgt := 4) hx hb dX5_bottlesInWater_42 (by decide) ?_
        exact hk4 v0 v1 x9 h kv0 hP hS (lv_sub hl [2, 3, 0] rfl)
      · replace h := mc_ie h c8
        obtain ⟨x10, ex10, h⟩ := mc_bn_e h
        refine lv_iinc (v := x10) (lv' := [(1, .int x10), (3, .ref (w.2.2.1 b4)), (0, .ref (w.2.2.1 v0)), (2, .int v2)]) hx hb dX5_bottlesInWater_36 hl (k := 2) rfl (by rw [ex10]; rfl) (by decide) rfl (fun ls hl => ?_)
        obtain ⟨x11, ex11, h⟩ := mc_bn_e h
        refine lv_iinc (v := x11) (lv' := [(2, .int x11), (1, .int x10), (3, .ref (w.2.2.1 b4)), (0, .ref (w.2.2.1 v0))]) hx hb dX5_bottlesInWater_39 hl (k := 3) rfl (by rw [ex11]; rfl) (by decide) rfl (fun ls hl => ?_)
        refine lv_goto (tgt := 4) hx hb dX5_bottlesInWater_42 (by decide) ?_
        exact hk4 v0 x10 x11 h kv0 hP hS (lv_sub hl [3, 1, 0] rfl)
theorem bk_X5_bottlesInWater_L4 {p : Program} {l : Launch} {e : Env} {s : State} {m : MethodId} {args : Array Value} {below : List Frame} {meth : Method} {c : Code} (C : CallFix p m c cX5_bottlesInWater 4 s args mc_big RX5) (hr : meth.sig.returnType = (some .int)) (hlk : meth.locks = false) {w : mc_w} (K : mc_K mc_k 152 w s) {I : Nat → Nat → Int32} {R : Nat → Nat → Option Nat} {F : Nat} {rz : Int32} : ∀ n : Nat, ∀ (v0 : Nat) (v1 : Int32) (v2 : Int32), mi_X5_bottlesInWater_L4 F n I R v0 v1 v2 = some rz → (mc_k v0 = 5) → ∀ {H : Heap} {locs : List Loc} {ls : Array Slot}, mc_P mc_k 152 w I R H → va_S (mc_A 152 w) s.heap H locs → lv_has ls 4 [(0, .ref (w.2.2.1 v0)), (1, .int v1), (2, .int v2)] → W p l e ({ frames := 1, cells := 0, slots := 0, locals := 21 } : Room) s m args below meth c H locs 0 0 (MQ below (mc_Q (some (.int rz)) (mc_B mc_k 152 w I R) (mc_A 152 w)) args s 0 0 (mc_A 152 w)) (F0 m 4 ls []) := by
  intro n
  induction n with
  | zero =>
    intro v0 v1 v2 h
    cases h
  | succ n ih =>
    intro v0 v1 v2 h
    exact bk_X5_bottlesInWater_B4 C hr hlk K  ih v0 v1 v2 h
set_option maxHeartbeats 4000000 in
set_option maxRecDepth 100000 in
theorem ct_X5_bottlesInWater (l : Launch) {w : mc_w} {I : Nat → Nat → Int32} {R : Nat → Nat → Option Nat} {F : Nat} {v0 : Nat} (kv0 : mc_k v0 = 5) {rz : Int32} (h : mi_X5_bottlesInWater F I R v0 = some rz) : Met l yX5_bottlesInWater (Cond.code yX5_bottlesInWater cX5_bottlesInWater 4 (some .int) :: mc_big) ({ frames := 1, cells := 0, slots := 0, locals := 21 } : Room) (va_Pc [.ref (w.2.2.1 v0)] (mc_B mc_k 152 w I R)) (mc_Q (some (.int rz)) (mc_B mc_k 152 w I R) (mc_A 152 w)) 0 0 (mc_A 152 w) := by
  refine Met.ofW (cc := cX5_bottlesInWater) (maxL := 4) (ret := (some .int)) (by decide) rfl ?_
  intro p e s m args below meth c s₁ B hml hv
  obtain ⟨rfl, hP, K⟩ := hv
  have hown : s.vm.findClass RX5 = some m.cls := findClass_of_methodNamed B.named
  have C : CallFix p m c cX5_bottlesInWater 4 s _ mc_big RX5 := ⟨B.exec, B.bytes, hml, hown, fun w hw => atoms_spec B.pre w (List.mem_cons_of_mem _ hw)⟩
  have hx := C.1
  have hb := C.2.1
  have hC := And.intro C.1 C.2.1
  have hr := B.returns
  have hlk := B.notSynchronized
  have hS : va_S (mc_A 152 w) s.heap s.heap [] := va_S.rf
  have hl := lv_entry ([.ref (w.2.2.1 v0)]) (n := 4) (Nat.le_of_ble_eq_true rfl)
  rw [lg_entry_eq]
  generalize (lg_sl ([.ref (w.2.2.1 v0)]) ++ List.replicate (4 - (lg_sl ([.ref (w.2.2.1 v0)])).length) Slot.unset).toArray = ls at hl ⊢
  have hl : lv_has ls 4 [(0, .ref (w.2.2.1 v0))] := hl
  unfold mi_X5_bottlesInWater at h
  refine lv_iconst (v := 0) hx hb dX5_bottlesInWater_0 (by decide) ?_
  refine lv_istore_n (i := 1) (lv' := [(1, .int 0), (0, .ref (w.2.2.1 v0))]) hx hb dX5_bottlesInWater_1 rfl hl (by decide) rfl (fun ls hl => ?_)
  refine lv_iconst (v := 0) hx hb dX5_bottlesInWater_2 (by decide) ?_
  refine lv_istore_n (i := 2) (lv' := [(2, .int 0), (1, .int 0), (0, .ref (w.2.2.1 v0))]) hx hb dX5_bottlesInWater_3 rfl hl (by decide) rfl (fun ls hl => ?_)
  exact bk_X5_bottlesInWater_L4 C hr hlk K  F v0 0 0 h kv0 hP hS (lv_sub hl [2, 1, 0] rfl)
set_option maxHeartbeats 4000000 in
set_option maxRecDepth 100000 in
theorem bk_X5_doubtfulBottles_B4 {p : Program} {l : Launch} {e : Env} {s : State} {m : MethodId} {args : Array Value} {below : List Frame} {meth : Method} {c : Code} (C : CallFix p m c cX5_doubtfulBottles 4 s args mc_big RX5) (hr : meth.sig.returnType = (some .int)) (hlk : meth.locks = false) {w : mc_w} (K : mc_K mc_k 152 w s) {I : Nat → Nat → Int32} {R : Nat → Nat → Option Nat} {F : Nat} {rz : Int32} {k4 : (Nat → Nat → Int32) → (Nat → Nat → Option Nat) → Nat → Int32 → Int32 → Option (Int32)} (hk4 : ∀ (v0 : Nat) (v1 : Int32) (v2 : Int32), k4 I R v0 v1 v2 = some rz → (mc_k v0 = 5) → ∀ {H : Heap} {locs : List Loc} {ls : Array Slot}, mc_P mc_k 152 w I R H → va_S (mc_A 152 w) s.heap H locs → lv_has ls 4 [(0, .ref (w.2.2.1 v0)), (1, .int v1), (2, .int v2)] → W p l e ({ frames := 3, cells := 0, slots := 0, locals := 62 } : Room) s m args below meth c H locs 0 0 (MQ below (mc_Q (some (.int rz)) (mc_B mc_k 152 w I R) (mc_A 152 w)) args s 0 0 (mc_A 152 w)) (F0 m 4 ls [])) : ∀ (v0 : Nat) (v1 : Int32) (v2 : Int32), mi_X5_doubtfulBottles_B4 k4 F I R v0 v1 v2 = some rz → (mc_k v0 = 5) → ∀ {H : Heap} {locs : List Loc} {ls : Array Slot}, mc_P mc_k 152 w I R H → va_S (mc_A 152 w) s.heap H locs → lv_has ls 4 [(0, .ref (w.2.2.1 v0)), (1, .int v1), (2, .int v2)] → W p l e ({ frames := 3, cells := 0, slots := 0, locals := 62 } : Room) s m args below meth c H locs 0 0 (MQ below (mc_Q (some (.int rz)) (mc_B mc_k 152 w I R) (mc_A 152 w)) args s 0 0 (mc_A 152 w)) (F0 m 4 ls []) := by
  intro v0 v1 v2 h kv0 H locs ls hP hS hl
  have hx := C.1
  have hb := C.2.1
  have hC := And.intro C.1 C.2.1
  unfold mi_X5_doubtfulBottles_B4 at h
  refine lv_iload_n hx hb dX5_doubtfulBottles_4 rfl (lv_at hl 2 rfl) ?_
  refine lv_aload_n hx hb dX5_doubtfulBottles_5 rfl (lv_at hl 0 rfl) ?_
  refine mf_X5_56 C K hP kv0 dX5_doubtfulBottles_6 ?_
  refine lv_icmp_ge (tgt := 39) hx hb dX5_doubtfulBottles_9 (by decide) (fun c1 => ?_) (fun c1 => ?_)
  · replace h := mc_it h c1
    refine lv_iload_n hx hb dX5_doubtfulBottles_39 rfl (lv_at hl 1 rfl) ?_
    cases h
    exact mt_i hC hr hlk K hP hS dX5_doubtfulBottles_40
  · replace h := mc_ie h c1
    refine lv_aload_n hx hb dX5_doubtfulBottles_12 rfl (lv_at hl 0 rfl) ?_
    refine lv_iload_n hx hb dX5_doubtfulBottles_13 rfl (lv_at hl 2 rfl) ?_
    obtain ⟨r2, e3, h⟩ := mc_ob_e h
    refine mg_Vr (As := [.int v2]) (rest := []) (ct_X5_bottleAt l (w := w) (I := I) (R := R) kv0 e3) C K hP hS hl.1 kv0 (by decide) rfl rfl ml_X5_62 wy_X5_bottleAt wd_X5_bottleAt rfl rfl rfl ⟨Nat.le_of_ble_eq_true rfl, Nat.le_of_ble_eq_true rfl⟩ (Nat.le_of_ble_eq_true rfl) ⟨Nat.zero_le _, Nat.zero_le _⟩ dX5_doubtfulBottles_14 (fun H locs hP tr2 hS => ?_)
    refine mv_astore_n (i := 3) (lv' := [(3, va_re w.2.2.1 r2), (0, .ref (w.2.2.1 v0)), (1, .int v1), (2, .int v2)]) hC dX5_doubtfulBottles_17 rfl hl (by decide) rfl (fun ls hl => ?_)
    refine mv_aload_n hC dX5_doubtfulBottles_18 rfl (lv_at hl 0 rfl) ?_
    rcases r2 with _ | b4
    · replace h := mc_om_n h
      refine lv_ifnullN (tgt := 33) hx hb dX5_doubtfulBottles_19 (by decide) ?_
      have hl : lv_has ls 4 [(3, va_re w.2.2.1 none), (0, .ref (w.2.2.1 v0)), (1, .int v1), (2, .int v2)] := hl
      obtain ⟨x5, ex5, h⟩ := mc_bn_e h
      refine lv_iinc (v := x5) (lv' := [(2, .int x5), (3, va_re w.2.2.1 none), (0, .ref (w.2.2.1 v0)), (1, .int v1)]) hx hb dX5_doubtfulBottles_33 hl (k := 3) rfl (by rw [ex5]; rfl) (by decide) rfl (fun ls hl => ?_)
      refine lv_goto (tgt := 4) hx hb dX5_doubtfulBottles_36 (by decide) ?_
      exact hk4 v0 v1 x5 h kv0 hP hS (lv_sub hl [2, 3, 0] rfl)
    · replace h := mc_om_s h
      have kb4 := tr2 b4 rfl
      refine lv_ifnull hx hb dX5_doubtfulBottles_19 ?_
      have hl : lv_has ls 4 [(3, .ref (w.2.2.1 b4)), (0, .ref (w.2.2.1 v0)), (1, .int v1), (2, .int v2)] := hl
      refine lv_aload_n hx hb dX5_doubtfulBottles_22 rfl (lv_at hl 1 rfl) ?_
      refine lv_aload_n hx hb dX5_doubtfulBottles_23 rfl (lv_at hl 0 rfl) ?_
      refine mg_Vz (As := [.ref (w.2.2.1 b4)]) (rest := []) (ct_X5_isDoubtful l (w := w) (I := I) (R := R) kv0 kb4 rfl) C K hP hS hl.1 kv0 (by decide) rfl rfl ml_X5_218 wy_X5_isDoubtful wd_X5_isDoubtful rfl rfl rfl ⟨Nat.le_of_ble_eq_true rfl, Nat.le_of_ble_eq_true rfl⟩ (Nat.le_of_ble_eq_true rfl) ⟨Nat.zero_le _, Nat.zero_le _⟩ dX5_doubtfulBottles_24 (fun H locs hP z7 hS => ?_)
      refine lv_if_eq (tgt := 33) hx hb dX5_doubtfulBottles_27 (by decide) (fun c8 => ?_) (fun c8 => ?_)
      · replace h := mc_it h c8
        obtain ⟨x9, ex9, h⟩ := mc_bn_e h
        refine lv_iinc (v := x9) (lv' := [(2, .int x9), (3, .ref (w.2.2.1 b4)), (0, .ref (w.2.2.1 v0)), (1, .int v1)]) hx hb dX5_doubtfulBottles_33 hl (k := 3) rfl (by rw [ex9]; rfl) (by decide) rfl (fun ls hl => ?_)
        refine lv_goto (tgt := 4) hx hb dX5_doubtfulBottles_36 (by decide) ?_
        exact hk4 v0 v1 x9 h kv0 hP hS (lv_sub hl [2, 3, 0] rfl)
      · replace h := mc_ie h c8
        obtain ⟨x10, ex10, h⟩ := mc_bn_e h
        refine lv_iinc (v := x10) (lv' := [(1, .int x10), (3, .ref (w.2.2.1 b4)), (0, .ref (w.2.2.1 v0)), (2, .int v2)]) hx hb dX5_doubtfulBottles_30 hl (k := 2) rfl (by rw [ex10]; rfl) (by decide) rfl (fun ls hl => ?_)
        obtain ⟨x11, ex11, h⟩ := mc_bn_e h
        refine lv_iinc (v := x11) (lv' := [(2, .int x11), (1, .int x10), (3, .ref (w.2.2.1 b4)), (0, .ref (w.2.2.1 v0))]) hx hb dX5_doubtfulBottles_33 hl (k := 3) rfl (by rw [ex11]; rfl) (by decide) rfl (fun ls hl => ?_)
        refine lv_goto (tgt := 4) hx hb dX5_doubtfulBottles_36 (by decide) ?_
        exact hk4 v0 x10 x11 h kv0 hP hS (lv_sub hl [3, 1, 0] rfl)
theorem bk_X5_doubtfulBottles_L4 {p : Program} {l : Launch} {e : Env} {s : State} {m : MethodId} {args : Array Value} {below : List Frame} {meth : Method} {c : Code} (C : CallFix p m c cX5_doubtfulBottles 4 s args mc_big RX5) (hr : meth.sig.returnType = (some .int)) (hlk : meth.locks = false) {w : mc_w} (K : mc_K mc_k 152 w s) {I : Nat → Nat → Int32} {R : Nat → Nat → Option Nat} {F : Nat} {rz : Int32} : ∀ n : Nat, ∀ (v0 : Nat) (v1 : Int32) (v2 : Int32), mi_X5_doubtfulBottles_L4 F n I R v0 v1 v2 = some rz → (mc_k v0 = 5) → ∀ {H : Heap} {locs : List Loc} {ls : Array Slot}, mc_P mc_k 152 w I R H → va_S (mc_A 152 w) s.heap H locs → lv_has ls 4 [(0, .ref (w.2.2.1 v0)), (1, .int v1), (2, .int v2)] → W p l e ({ frames := 3, cells := 0, slots := 0, locals := 62 } : Room) s m args below meth c H locs 0 0 (MQ below (mc_Q (some (.int rz)) (mc_B mc_k 152 w I R) (mc_A 152 w)) args s 0 0 (mc_A 152 w)) (F0 m 4 ls []) := by
  intro n
  induction n with
  | zero =>
    intro v0 v1 v2 h
    cases h
  | succ n ih =>
    intro v0 v1 v2 h
    exact bk_X5_doubtfulBottles_B4 C hr hlk K  ih v0 v1 v2 h
set_option maxHeartbeats 4000000 in
set_option maxRecDepth 100000 in
theorem ct_X5_doubtfulBottles (l : Launch) {w : mc_w} {I : Nat → Nat → Int32} {R : Nat → Nat → Option Nat} {F : Nat} {v0 : Nat} (kv0 : mc_k v0 = 5) {rz : Int32} (h : mi_X5_doubtfulBottles F I R v0 = some rz) : Met l yX5_doubtfulBottles (Cond.code yX5_doubtfulBottles cX5_doubtfulBottles 4 (some .int) :: mc_big) ({ frames := 3, cells := 0, slots := 0, locals := 62 } : Room) (va_Pc [.ref (w.2.2.1 v0)] (mc_B mc_k 152 w I R)) (mc_Q (some (.int rz)) (mc_B mc_k 152 w I R) (mc_A 152 w)) 0 0 (mc_A 152 w) := by
  refine Met.ofW (cc := cX5_doubtfulBottles) (maxL := 4) (ret := (some .int)) (by decide) rfl ?_
  intro p e s m args below meth c s₁ B hml hv
  obtain ⟨rfl, hP, K⟩ := hv
  have hown : s.vm.findClass RX5 = some m.cls := findClass_of_methodNamed B.named
  have C : CallFix p m c cX5_doubtfulBottles 4 s _ mc_big RX5 := ⟨B.exec, B.bytes, hml, hown, fun w hw => atoms_spec B.pre w (List.mem_cons_of_mem _ hw)⟩
  have hx := C.1
  have hb := C.2.1
  have hC := And.intro C.1 C.2.1
  have hr := B.returns
  have hlk := B.notSynchronized
  have hS : va_S (mc_A 152 w) s.heap s.heap [] := va_S.rf
  have hl := lv_entry ([.ref (w.2.2.1 v0)]) (n := 4) (Nat.le_of_ble_eq_true rfl)
  rw [lg_entry_eq]
  generalize (lg_sl ([.ref (w.2.2.1 v0)]) ++ List.replicate (4 - (lg_sl ([.ref (w.2.2.1 v0)])).length) Slot.unset).toArray = ls at hl ⊢
  have hl : lv_has ls 4 [(0, .ref (w.2.2.1 v0))] := hl
  unfold mi_X5_doubtfulBottles at h
  refine lv_iconst (v := 0) hx hb dX5_doubtfulBottles_0 (by decide) ?_
  refine lv_istore_n (i := 1) (lv' := [(1, .int 0), (0, .ref (w.2.2.1 v0))]) hx hb dX5_doubtfulBottles_1 rfl hl (by decide) rfl (fun ls hl => ?_)
  refine lv_iconst (v := 0) hx hb dX5_doubtfulBottles_2 (by decide) ?_
  refine lv_istore_n (i := 2) (lv' := [(2, .int 0), (1, .int 0), (0, .ref (w.2.2.1 v0))]) hx hb dX5_doubtfulBottles_3 rfl hl (by decide) rfl (fun ls hl => ?_)
  exact bk_X5_doubtfulBottles_L4 C hr hlk K  F v0 0 0 h kv0 hP hS (lv_sub hl [2, 1, 0] rfl)
set_option maxHeartbeats 4000000 in
set_option maxRecDepth 100000 in
theorem bk_X5_openInLayer_B4 {p : Program} {l : Launch} {e : Env} {s : State} {m : MethodId} {args : Array Value} {below : List Frame} {meth : Method} {c : Code} (C : CallFix p m c cX5_openInLayer 5 s args mc_big RX5) (hr : meth.sig.returnType = (some .int)) (hlk : meth.locks = false) {w : mc_w} (K : mc_K mc_k 152 w s) {I : Nat → Nat → Int32} {R : Nat → Nat → Option Nat} {F : Nat} {rz : Int32} {k4 : (Nat → Nat → Int32) → (Nat → Nat → Option Nat) → Nat → Int32 → Int32 → Int32 → Option (Int32)} (hk4 : ∀ (v0 : Nat) (v1 : Int32) (v2 : Int32) (v3 : Int32), k4 I R v0 v1 v2 v3 = some rz → (mc_k v0 = 5) → ∀ {H : Heap} {locs : List Loc} {ls : Array Slot}, mc_P mc_k 152 w I R H → va_S (mc_A 152 w) s.heap H locs → lv_has ls 5 [(0, .ref (w.2.2.1 v0)), (1, .int v1), (2, .int v2), (3, .int v3)] → W p l e ({ frames := 3, cells := 0, slots := 0, locals := 63 } : Room) s m args below meth c H locs 0 0 (MQ below (mc_Q (some (.int rz)) (mc_B mc_k 152 w I R) (mc_A 152 w)) args s 0 0 (mc_A 152 w)) (F0 m 4 ls [])) : ∀ (v0 : Nat) (v1 : Int32) (v2 : Int32) (v3 : Int32), mi_X5_openInLayer_B4 k4 F I R v0 v1 v2 v3 = some rz → (mc_k v0 = 5) → ∀ {H : Heap} {locs : List Loc} {ls : Array Slot}, mc_P mc_k 152 w I R H → va_S (mc_A 152 w) s.heap H locs → lv_has ls 5 [(0, .ref (w.2.2.1 v0)), (1, .int v1), (2, .int v2), (3, .int v3)] → W p l e ({ frames := 3, cells := 0, slots := 0, locals := 63 } : Room) s m args below meth c H locs 0 0 (MQ below (mc_Q (some (.int rz)) (mc_B mc_k 152 w I R) (mc_A 152 w)) args s 0 0 (mc_A 152 w)) (F0 m 4 ls []) := by
  intro v0 v1 v2 v3 h kv0 H locs ls hP hS hl
  have hx := C.1
  have hb := C.2.1
  have hC := And.intro C.1 C.2.1
  unfold mi_X5_openInLayer_B4 at h
  refine lv_iload_n hx hb dX5_openInLayer_4 rfl (lv_at hl 3 rfl) ?_
  refine lv_aload_n hx hb dX5_openInLayer_5 rfl (lv_at hl 0 rfl) ?_
  refine mf_X5_56 C K hP kv0 dX5_openInLayer_6 ?_
  refine lv_icmp_ge (tgt := 75) hx hb dX5_openInLayer_9 (by decide) (fun c1 => ?_) (fun c1 => ?_)
  · replace h := mc_it h c1
    refine lv_iload_n hx hb dX5_openInLayer_75 rfl (lv_at hl 2 rfl) ?_
    cases h
    exact mt_i hC hr hlk K hP hS dX5_openInLayer_76
  · replace h := mc_ie h c1
    refine lv_aload_n hx hb dX5_openInLayer_12 rfl (lv_at hl 0 rfl) ?_
    refine lv_iload_n hx hb dX5_openInLayer_13 rfl (lv_at hl 3 rfl) ?_
    obtain ⟨r2, e3, h⟩ := mc_ob_e h
    refine mg_Vr (As := [.int v3]) (rest := []) (ct_X5_bottleAt l (w := w) (I := I) (R := R) kv0 e3) C K hP hS hl.1 kv0 (by decide) rfl rfl ml_X5_62 wy_X5_bottleAt wd_X5_bottleAt rfl rfl rfl ⟨Nat.le_of_ble_eq_true rfl, Nat.le_of_ble_eq_true rfl⟩ (Nat.le_of_ble_eq_true rfl) ⟨Nat.zero_le _, Nat.zero_le _⟩ dX5_openInLayer_14 (fun H locs hP tr2 hS => ?_)
    refine mv_astore (i := 4) (lv' := [(4, va_re w.2.2.1 r2), (0, .ref (w.2.2.1 v0)), (1, .int v1), (2, .int v2), (3, .int v3)]) hC dX5_openInLayer_17 hl (by decide) rfl (fun ls hl => ?_)
    refine mv_aload hC dX5_openInLayer_19 (lv_at hl 0 rfl) ?_
    rcases r2 with _ | b4
    · replace h := mc_om_n h
      refine lv_ifnullN (tgt := 69) hx hb dX5_openInLayer_21 (by decide) ?_
      have hl : lv_has ls 5 [(4, va_re w.2.2.1 none), (0, .ref (w.2.2.1 v0)), (1, .int v1), (2, .int v2), (3, .int v3)] := hl
      obtain ⟨x5, ex5, h⟩ := mc_bn_e h
      refine lv_iinc (v := x5) (lv' := [(3, .int x5), (4, va_re w.2.2.1 none), (0, .ref (w.2.2.1 v0)), (1, .int v1), (2, .int v2)]) hx hb dX5_openInLayer_69 hl (k := 4) rfl (by rw [ex5]; rfl) (by decide) rfl (fun ls hl => ?_)
      refine lv_goto (tgt := 4) hx hb dX5_openInLayer_72 (by decide) ?_
      exact hk4 v0 v1 v2 x5 h kv0 hP hS (lv_sub hl [2, 3, 4, 0] rfl)
    · replace h := mc_om_s h
      have kb4 := tr2 b4 rfl
      refine lv_ifnull hx hb dX5_openInLayer_21 ?_
      have hl : lv_has ls 5 [(4, .ref (w.2.2.1 b4)), (0, .ref (w.2.2.1 v0)), (1, .int v1), (2, .int v2), (3, .int v3)] := hl
      refine lv_aload hx hb dX5_openInLayer_24 (lv_at hl 0 rfl) ?_
      refine mf_X5_130 C K hP kb4 dX5_openInLayer_26 ?_
      refine lv_if_ne (tgt := 69) hx hb dX5_openInLayer_29 (by decide) (fun c6 => ?_) (fun c6 => ?_)
      · replace h := mc_ie h c6
        obtain ⟨x7, ex7, h⟩ := mc_bn_e h
        refine lv_iinc (v := x7) (lv' := [(3, .int x7), (4, .ref (w.2.2.1 b4)), (0, .ref (w.2.2.1 v0)), (1, .int v1), (2, .int v2)]) hx hb dX5_openInLayer_69 hl (k := 4) rfl (by rw [ex7]; rfl) (by decide) rfl (fun ls hl => ?_)
        refine lv_goto (tgt := 4) hx hb dX5_openInLayer_72 (by decide) ?_
        exact hk4 v0 v1 v2 x7 h kv0 hP hS (lv_sub hl [2, 3, 4, 0] rfl)
      · replace h := mc_it h c6
        refine lv_aload_n hx hb dX5_openInLayer_32 rfl (lv_at hl 1 rfl) ?_
        refine mf_X5_12 C K hP kv0 dX5_openInLayer_33 ?_
        refine lv_aload hx hb dX5_openInLayer_36 (lv_at hl 0 rfl) ?_
        refine mf_X5_95 C K hP kb4 dX5_openInLayer_38 ?_
        refine mg_Vz (As := [.int (I b4 0)]) (rest := []) (ct_X1_isInWater l (w := w) (I := I) (R := R) (kk_5_1 kv0) rfl) C K hP hS hl.1 (kk_5_1 kv0) (by decide) rfl rfl ml_X5_102 wy_X1_isInWater wd_X1_isInWater rfl rfl rfl ⟨Nat.le_of_ble_eq_true rfl, Nat.le_of_ble_eq_true rfl⟩ (Nat.le_of_ble_eq_true rfl) ⟨Nat.zero_le _, Nat.zero_le _⟩ dX5_openInLayer_41 (fun H locs hP z9 hS => ?_)
        refine lv_if_eq (tgt := 69) hx hb dX5_openInLayer_44 (by decide) (fun c10 => ?_) (fun c10 => ?_)
        · replace h := mc_it h c10
          obtain ⟨x11, ex11, h⟩ := mc_bn_e h
          refine lv_iinc (v := x11) (lv' := [(3, .int x11), (4, .ref (w.2.2.1 b4)), (0, .ref (w.2.2.1 v0)), (1, .int v1), (2, .int v2)]) hx hb dX5_openInLayer_69 hl (k := 4) rfl (by rw [ex11]; rfl) (by decide) rfl (fun ls hl => ?_)
          refine lv_goto (tgt := 4) hx hb dX5_openInLayer_72 (by decide) ?_
          exact hk4 v0 v1 v2 x11 h kv0 hP hS (lv_sub hl [2, 3, 4, 0] rfl)
        · replace h := mc_ie h c10
          refine lv_aload_n hx hb dX5_openInLayer_47 rfl (lv_at hl 1 rfl) ?_
          refine mf_X5_12 C K hP kv0 dX5_openInLayer_48 ?_
          refine lv_aload hx hb dX5_openInLayer_51 (lv_at hl 0 rfl) ?_
          refine mf_X5_95 C K hP kb4 dX5_openInLayer_53 ?_
          obtain ⟨r12, e13, h⟩ := mc_ob_e h
          refine mg_Vi (As := [.int (I b4 0)]) (rest := []) (ct_X1_depthOf l (w := w) (I := I) (R := R) (kk_5_1 kv0) e13) C K hP hS hl.1 (kk_5_1 kv0) (by decide) rfl rfl ml_X5_221 wy_X1_depthOf wd_X1_depthOf rfl rfl rfl ⟨Nat.le_of_ble_eq_true rfl, Nat.le_of_ble_eq_true rfl⟩ (Nat.le_of_ble_eq_true rfl) ⟨Nat.zero_le _, Nat.zero_le _⟩ dX5_openInLayer_56 (fun H locs hP hS => ?_)
          refine mg_SNi (As := [.int r12]) (rest := []) (ct_X8_layerAt l (w := w) (I := I) (R := R) rfl) C K hP hS hl.1 K.2.2.2.2.2.2.2.2.2.2.2.1 wy_X8_layerAt wd_X8_layerAt rfl rfl rfl ⟨Nat.le_of_ble_eq_true rfl, Nat.le_of_ble_eq_true rfl⟩ (Nat.le_of_ble_eq_true rfl) ⟨Nat.zero_le _, Nat.zero_le _⟩ dX5_openInLayer_59 (fun H locs hP hS => ?_)
          refine lv_iload_n hx hb dX5_openInLayer_62 rfl (lv_at hl 2 rfl) ?_
          refine lv_icmp_ne (tgt := 69) hx hb dX5_openInLayer_63 (by decide) (fun c15 => ?_) (fun c15 => ?_)
          · replace h := mc_ie h c15
            obtain ⟨x16, ex16, h⟩ := mc_bn_e h
            refine lv_iinc (v := x16) (lv' := [(3, .int x16), (4, .ref (w.2.2.1 b4)), (0, .ref (w.2.2.1 v0)), (1, .int v1), (2, .int v2)]) hx hb dX5_openInLayer_69 hl (k := 4) rfl (by rw [ex16]; rfl) (by decide) rfl (fun ls hl => ?_)
            refine lv_goto (tgt := 4) hx hb dX5_openInLayer_72 (by decide) ?_
            exact hk4 v0 v1 v2 x16 h kv0 hP hS (lv_sub hl [2, 3, 4, 0] rfl)
          · replace h := mc_it h c15
            obtain ⟨x17, ex17, h⟩ := mc_bn_e h
            refine lv_iinc (v := x17) (lv' := [(2, .int x17), (4, .ref (w.2.2.1 b4)), (0, .ref (w.2.2.1 v0)), (1, .int v1), (3, .int v3)]) hx hb dX5_openInLayer_66 hl (k := 3) rfl (by rw [ex17]; rfl) (by decide) rfl (fun ls hl => ?_)
            obtain ⟨x18, ex18, h⟩ := mc_bn_e h
            refine lv_iinc (v := x18) (lv' := [(3, .int x18), (2, .int x17), (4, .ref (w.2.2.1 b4)), (0, .ref (w.2.2.1 v0)), (1, .int v1)]) hx hb dX5_openInLayer_69 hl (k := 4) rfl (by rw [ex18]; rfl) (by decide) rfl (fun ls hl => ?_)
            refine lv_goto (tgt := 4) hx hb dX5_openInLayer_72 (by decide) ?_
            exact hk4 v0 v1 x17 x18 h kv0 hP hS (lv_sub hl [3, 4, 1, 0] rfl)
theorem bk_X5_openInLayer_L4 {p : Program} {l : Launch} {e : Env} {s : State} {m : MethodId} {args : Array Value} {below : List Frame} {meth : Method} {c : Code} (C : CallFix p m c cX5_openInLayer 5 s args mc_big RX5) (hr : meth.sig.returnType = (some .int)) (hlk : meth.locks = false) {w : mc_w} (K : mc_K mc_k 152 w s) {I : Nat → Nat → Int32} {R : Nat → Nat → Option Nat} {F : Nat} {rz : Int32} : ∀ n : Nat, ∀ (v0 : Nat) (v1 : Int32) (v2 : Int32) (v3 : Int32), mi_X5_openInLayer_L4 F n I R v0 v1 v2 v3 = some rz → (mc_k v0 = 5) → ∀ {H : Heap} {locs : List Loc} {ls : Array Slot}, mc_P mc_k 152 w I R H → va_S (mc_A 152 w) s.heap H locs → lv_has ls 5 [(0, .ref (w.2.2.1 v0)), (1, .int v1), (2, .int v2), (3, .int v3)] → W p l e ({ frames := 3, cells := 0, slots := 0, locals := 63 } : Room) s m args below meth c H locs 0 0 (MQ below (mc_Q (some (.int rz)) (mc_B mc_k 152 w I R) (mc_A 152 w)) args s 0 0 (mc_A 152 w)) (F0 m 4 ls []) := by
  intro n
  induction n with
  | zero =>
    intro v0 v1 v2 v3 h
    cases h
  | succ n ih =>
    intro v0 v1 v2 v3 h
    exact bk_X5_openInLayer_B4 C hr hlk K  ih v0 v1 v2 v3 h
set_option maxHeartbeats 4000000 in
set_option maxRecDepth 100000 in
theorem ct_X5_openInLayer (l : Launch) {w : mc_w} {I : Nat → Nat → Int32} {R : Nat → Nat → Option Nat} {F : Nat} {v0 : Nat} {v1 : Int32} (kv0 : mc_k v0 = 5) {rz : Int32} (h : mi_X5_openInLayer F I R v0 v1 = some rz) : Met l yX5_openInLayer (Cond.code yX5_openInLayer cX5_openInLayer 5 (some .int) :: mc_big) ({ frames := 3, cells := 0, slots := 0, locals := 63 } : Room) (va_Pc [.ref (w.2.2.1 v0), .int v1] (mc_B mc_k 152 w I R)) (mc_Q (some (.int rz)) (mc_B mc_k 152 w I R) (mc_A 152 w)) 0 0 (mc_A 152 w) := by
  refine Met.ofW (cc := cX5_openInLayer) (maxL := 5) (ret := (some .int)) (by decide) rfl ?_
  intro p e s m args below meth c s₁ B hml hv
  obtain ⟨rfl, hP, K⟩ := hv
  have hown : s.vm.findClass RX5 = some m.cls := findClass_of_methodNamed B.named
  have C : CallFix p m c cX5_openInLayer 5 s _ mc_big RX5 := ⟨B.exec, B.bytes, hml, hown, fun w hw => atoms_spec B.pre w (List.mem_cons_of_mem _ hw)⟩
  have hx := C.1
  have hb := C.2.1
  have hC := And.intro C.1 C.2.1
  have hr := B.returns
  have hlk := B.notSynchronized
  have hS : va_S (mc_A 152 w) s.heap s.heap [] := va_S.rf
  have hl := lv_entry ([.ref (w.2.2.1 v0), .int v1]) (n := 5) (Nat.le_of_ble_eq_true rfl)
  rw [lg_entry_eq]
  generalize (lg_sl ([.ref (w.2.2.1 v0), .int v1]) ++ List.replicate (5 - (lg_sl ([.ref (w.2.2.1 v0), .int v1])).length) Slot.unset).toArray = ls at hl ⊢
  have hl : lv_has ls 5 [(0, .ref (w.2.2.1 v0)), (1, .int v1)] := hl
  unfold mi_X5_openInLayer at h
  refine lv_iconst (v := 0) hx hb dX5_openInLayer_0 (by decide) ?_
  refine lv_istore_n (i := 2) (lv' := [(2, .int 0), (0, .ref (w.2.2.1 v0)), (1, .int v1)]) hx hb dX5_openInLayer_1 rfl hl (by decide) rfl (fun ls hl => ?_)
  refine lv_iconst (v := 0) hx hb dX5_openInLayer_2 (by decide) ?_
  refine lv_istore_n (i := 3) (lv' := [(3, .int 0), (2, .int 0), (0, .ref (w.2.2.1 v0)), (1, .int v1)]) hx hb dX5_openInLayer_3 rfl hl (by decide) rfl (fun ls hl => ?_)
  exact bk_X5_openInLayer_L4 C hr hlk K  F v0 v1 0 0 h kv0 hP hS (lv_sub hl [2, 3, 1, 0] rfl)
set_option maxHeartbeats 4000000 in
set_option maxRecDepth 100000 in
theorem bk_X5_shutInLayer_B4 {p : Program} {l : Launch} {e : Env} {s : State} {m : MethodId} {args : Array Value} {below : List Frame} {meth : Method} {c : Code} (C : CallFix p m c cX5_shutInLayer 5 s args mc_big RX5) (hr : meth.sig.returnType = (some .int)) (hlk : meth.locks = false) {w : mc_w} (K : mc_K mc_k 152 w s) {I : Nat → Nat → Int32} {R : Nat → Nat → Option Nat} {F : Nat} {rz : Int32} {k4 : (Nat → Nat → Int32) → (Nat → Nat → Option Nat) → Nat → Int32 → Int32 → Int32 → Option (Int32)} (hk4 : ∀ (v0 : Nat) (v1 : Int32) (v2 : Int32) (v3 : Int32), k4 I R v0 v1 v2 v3 = some rz → (mc_k v0 = 5) → ∀ {H : Heap} {locs : List Loc} {ls : Array Slot}, mc_P mc_k 152 w I R H → va_S (mc_A 152 w) s.heap H locs → lv_has ls 5 [(0, .ref (w.2.2.1 v0)), (1, .int v1), (2, .int v2), (3, .int v3)] → W p l e ({ frames := 1, cells := 0, slots := 0, locals := 21 } : Room) s m args below meth c H locs 0 0 (MQ below (mc_Q (some (.int rz)) (mc_B mc_k 152 w I R) (mc_A 152 w)) args s 0 0 (mc_A 152 w)) (F0 m 4 ls [])) : ∀ (v0 : Nat) (v1 : Int32) (v2 : Int32) (v3 : Int32), mi_X5_shutInLayer_B4 k4 F I R v0 v1 v2 v3 = some rz → (mc_k v0 = 5) → ∀ {H : Heap} {locs : List Loc} {ls : Array Slot}, mc_P mc_k 152 w I R H → va_S (mc_A 152 w) s.heap H locs → lv_has ls 5 [(0, .ref (w.2.2.1 v0)), (1, .int v1), (2, .int v2), (3, .int v3)] → W p l e ({ frames := 1, cells := 0, slots := 0, locals := 21 } : Room) s m args below meth c H locs 0 0 (MQ below (mc_Q (some (.int rz)) (mc_B mc_k 152 w I R) (mc_A 152 w)) args s 0 0 (mc_A 152 w)) (F0 m 4 ls []) := by
  intro v0 v1 v2 v3 h kv0 H locs ls hP hS hl
  have hx := C.1
  have hb := C.2.1
  have hC := And.intro C.1 C.2.1
  unfold mi_X5_shutInLayer_B4 at h
  refine lv_iload_n hx hb dX5_shutInLayer_4 rfl (lv_at hl 3 rfl) ?_
  refine lv_aload_n hx hb dX5_shutInLayer_5 rfl (lv_at hl 0 rfl) ?_
  refine mf_X5_56 C K hP kv0 dX5_shutInLayer_6 ?_
  refine lv_icmp_ge (tgt := 50) hx hb dX5_shutInLayer_9 (by decide) (fun c1 => ?_) (fun c1 => ?_)
  · replace h := mc_it h c1
    refine lv_iload_n hx hb dX5_shutInLayer_50 rfl (lv_at hl 2 rfl) ?_
    cases h
    exact mt_i hC hr hlk K hP hS dX5_shutInLayer_51
  · replace h := mc_ie h c1
    refine lv_aload_n hx hb dX5_shutInLayer_12 rfl (lv_at hl 0 rfl) ?_
    refine lv_iload_n hx hb dX5_shutInLayer_13 rfl (lv_at hl 3 rfl) ?_
    obtain ⟨r2, e3, h⟩ := mc_ob_e h
    refine mg_Vr (As := [.int v3]) (rest := []) (ct_X5_bottleAt l (w := w) (I := I) (R := R) kv0 e3) C K hP hS hl.1 kv0 (by decide) rfl rfl ml_X5_62 wy_X5_bottleAt wd_X5_bottleAt rfl rfl rfl ⟨Nat.le_of_ble_eq_true rfl, Nat.le_of_ble_eq_true rfl⟩ (Nat.le_of_ble_eq_true rfl) ⟨Nat.zero_le _, Nat.zero_le _⟩ dX5_shutInLayer_14 (fun H locs hP tr2 hS => ?_)
    refine mv_astore (i := 4) (lv' := [(4, va_re w.2.2.1 r2), (0, .ref (w.2.2.1 v0)), (1, .int v1), (2, .int v2), (3, .int v3)]) hC dX5_shutInLayer_17 hl (by decide) rfl (fun ls hl => ?_)
    refine mv_aload hC dX5_shutInLayer_19 (lv_at hl 0 rfl) ?_
    rcases r2 with _ | b4
    · replace h := mc_om_n h
      refine lv_ifnullN (tgt := 44) hx hb dX5_shutInLayer_21 (by decide) ?_
      have hl : lv_has ls 5 [(4, va_re w.2.2.1 none), (0, .ref (w.2.2.1 v0)), (1, .int v1), (2, .int v2), (3, .int v3)] := hl
      obtain ⟨x5, ex5, h⟩ := mc_bn_e h
      refine lv_iinc (v := x5) (lv' := [(3, .int x5), (4, va_re w.2.2.1 none), (0, .ref (w.2.2.1 v0)), (1, .int v1), (2, .int v2)]) hx hb dX5_shutInLayer_44 hl (k := 4) rfl (by rw [ex5]; rfl) (by decide) rfl (fun ls hl => ?_)
      refine lv_goto (tgt := 4) hx hb dX5_shutInLayer_47 (by decide) ?_
      exact hk4 v0 v1 v2 x5 h kv0 hP hS (lv_sub hl [2, 3, 4, 0] rfl)
    · replace h := mc_om_s h
      have kb4 := tr2 b4 rfl
      refine lv_ifnull hx hb dX5_shutInLayer_21 ?_
      have hl : lv_has ls 5 [(4, .ref (w.2.2.1 b4)), (0, .ref (w.2.2.1 v0)), (1, .int v1), (2, .int v2), (3, .int v3)] := hl
      refine lv_aload hx hb dX5_shutInLayer_24 (lv_at hl 0 rfl) ?_
      refine mf_X5_130 C K hP kb4 dX5_shutInLayer_26 ?_
      refine lv_if_eq (tgt := 44) hx hb dX5_shutInLayer_29 (by decide) (fun c6 => ?_) (fun c6 => ?_)
      · replace h := mc_it h c6
        obtain ⟨x7, ex7, h⟩ := mc_bn_e h
        refine lv_iinc (v := x7) (lv' := [(3, .int x7), (4, .ref (w.2.2.1 b4)), (0, .ref (w.2.2.1 v0)), (1, .int v1), (2, .int v2)]) hx hb dX5_shutInLayer_44 hl (k := 4) rfl (by rw [ex7]; rfl) (by decide) rfl (fun ls hl => ?_)
        refine lv_goto (tgt := 4) hx hb dX5_shutInLayer_47 (by decide) ?_
        exact hk4 v0 v1 v2 x7 h kv0 hP hS (lv_sub hl [2, 3, 4, 0] rfl)
      · replace h := mc_ie h c6
        refine lv_aload hx hb dX5_shutInLayer_32 (lv_at hl 0 rfl) ?_
        refine mf_X5_152 C K hP kb4 dX5_shutInLayer_34 ?_
        refine lv_iload_n hx hb dX5_shutInLayer_37 rfl (lv_at hl 2 rfl) ?_
        refine lv_icmp_ne (tgt := 44) hx hb dX5_shutInLayer_38 (by decide) (fun c8 => ?_) (fun c8 => ?_)
        · replace h := mc_ie h c8
          obtain ⟨x9, ex9, h⟩ := mc_bn_e h
          refine lv_iinc (v := x9) (lv' := [(3, .int x9), (4, .ref (w.2.2.1 b4)), (0, .ref (w.2.2.1 v0)), (1, .int v1), (2, .int v2)]) hx hb dX5_shutInLayer_44 hl (k := 4) rfl (by rw [ex9]; rfl) (by decide) rfl (fun ls hl => ?_)
          refine lv_goto (tgt := 4) hx hb dX5_shutInLayer_47 (by decide) ?_
          exact hk4 v0 v1 v2 x9 h kv0 hP hS (lv_sub hl [2, 3, 4, 0] rfl)
        · replace h := mc_it h c8
          obtain ⟨x10, ex10, h⟩ := mc_bn_e h
          refine lv_iinc (v := x10) (lv' := [(2, .int x10), (4, .ref (w.2.2.1 b4)), (0, .ref (w.2.2.1 v0)), (1, .int v1), (3, .int v3)]) hx hb dX5_shutInLayer_41 hl (k := 3) rfl (by rw [ex10]; rfl) (by decide) rfl (fun ls hl => ?_)
          obtain ⟨x11, ex11, h⟩ := mc_bn_e h
          refine lv_iinc (v := x11) (lv' := [(3, .int x11), (2, .int x10), (4, .ref (w.2.2.1 b4)), (0, .ref (w.2.2.1 v0)), (1, .int v1)]) hx hb dX5_shutInLayer_44 hl (k := 4) rfl (by rw [ex11]; rfl) (by decide) rfl (fun ls hl => ?_)
          refine lv_goto (tgt := 4) hx hb dX5_shutInLayer_47 (by decide) ?_
          exact hk4 v0 v1 x10 x11 h kv0 hP hS (lv_sub hl [3, 4, 1, 0] rfl)
theorem bk_X5_shutInLayer_L4 {p : Program} {l : Launch} {e : Env} {s : State} {m : MethodId} {args : Array Value} {below : List Frame} {meth : Method} {c : Code} (C : CallFix p m c cX5_shutInLayer 5 s args mc_big RX5) (hr : meth.sig.returnType = (some .int)) (hlk : meth.locks = false) {w : mc_w} (K : mc_K mc_k 152 w s) {I : Nat → Nat → Int32} {R : Nat → Nat → Option Nat} {F : Nat} {rz : Int32} : ∀ n : Nat, ∀ (v0 : Nat) (v1 : Int32) (v2 : Int32) (v3 : Int32), mi_X5_shutInLayer_L4 F n I R v0 v1 v2 v3 = some rz → (mc_k v0 = 5) → ∀ {H : Heap} {locs : List Loc} {ls : Array Slot}, mc_P mc_k 152 w I R H → va_S (mc_A 152 w) s.heap H locs → lv_has ls 5 [(0, .ref (w.2.2.1 v0)), (1, .int v1), (2, .int v2), (3, .int v3)] → W p l e ({ frames := 1, cells := 0, slots := 0, locals := 21 } : Room) s m args below meth c H locs 0 0 (MQ below (mc_Q (some (.int rz)) (mc_B mc_k 152 w I R) (mc_A 152 w)) args s 0 0 (mc_A 152 w)) (F0 m 4 ls []) := by
  intro n
  induction n with
  | zero =>
    intro v0 v1 v2 v3 h
    cases h
  | succ n ih =>
    intro v0 v1 v2 v3 h
    exact bk_X5_shutInLayer_B4 C hr hlk K  ih v0 v1 v2 v3 h
set_option maxHeartbeats 4000000 in
set_option maxRecDepth 100000 in
theorem ct_X5_shutInLayer (l : Launch) {w : mc_w} {I : Nat → Nat → Int32} {R : Nat → Nat → Option Nat} {F : Nat} {v0 : Nat} {v1 : Int32} (kv0 : mc_k v0 = 5) {rz : Int32} (h : mi_X5_shutInLayer F I R v0 v1 = some rz) : Met l yX5_shutInLayer (Cond.code yX5_shutInLayer cX5_shutInLayer 5 (some .int) :: mc_big) ({ frames := 1, cells := 0, slots := 0, locals := 21 } : Room) (va_Pc [.ref (w.2.2.1 v0), .int v1] (mc_B mc_k 152 w I R)) (mc_Q (some (.int rz)) (mc_B mc_k 152 w I R) (mc_A 152 w)) 0 0 (mc_A 152 w) := by
  refine Met.ofW (cc := cX5_shutInLayer) (maxL := 5) (ret := (some .int)) (by decide) rfl ?_
  intro p e s m args below meth c s₁ B hml hv
  obtain ⟨rfl, hP, K⟩ := hv
  have hown : s.vm.findClass RX5 = some m.cls := findClass_of_methodNamed B.named
  have C : CallFix p m c cX5_shutInLayer 5 s _ mc_big RX5 := ⟨B.exec, B.bytes, hml, hown, fun w hw => atoms_spec B.pre w (List.mem_cons_of_mem _ hw)⟩
  have hx := C.1
  have hb := C.2.1
  have hC := And.intro C.1 C.2.1
  have hr := B.returns
  have hlk := B.notSynchronized
  have hS : va_S (mc_A 152 w) s.heap s.heap [] := va_S.rf
  have hl := lv_entry ([.ref (w.2.2.1 v0), .int v1]) (n := 5) (Nat.le_of_ble_eq_true rfl)
  rw [lg_entry_eq]
  generalize (lg_sl ([.ref (w.2.2.1 v0), .int v1]) ++ List.replicate (5 - (lg_sl ([.ref (w.2.2.1 v0), .int v1])).length) Slot.unset).toArray = ls at hl ⊢
  have hl : lv_has ls 5 [(0, .ref (w.2.2.1 v0)), (1, .int v1)] := hl
  unfold mi_X5_shutInLayer at h
  refine lv_iconst (v := 0) hx hb dX5_shutInLayer_0 (by decide) ?_
  refine lv_istore_n (i := 2) (lv' := [(2, .int 0), (0, .ref (w.2.2.1 v0)), (1, .int v1)]) hx hb dX5_shutInLayer_1 rfl hl (by decide) rfl (fun ls hl => ?_)
  refine lv_iconst (v := 0) hx hb dX5_shutInLayer_2 (by decide) ?_
  refine lv_istore_n (i := 3) (lv' := [(3, .int 0), (2, .int 0), (0, .ref (w.2.2.1 v0)), (1, .int v1)]) hx hb dX5_shutInLayer_3 rfl hl (by decide) rfl (fun ls hl => ?_)
  exact bk_X5_shutInLayer_L4 C hr hlk K  F v0 v1 0 0 h kv0 hP hS (lv_sub hl [2, 3, 1, 0] rfl)
set_option maxHeartbeats 4000000 in
set_option maxRecDepth 100000 in
theorem bk_X7_change_J68 {p : Program} {l : Launch} {e : Env} {s : State} {m : MethodId} {args : Array Value} {below : List Frame} {meth : Method} {c : Code} (C : CallFix p m c cX7_change 5 s args mc_big RX7) (hr : meth.sig.returnType = (some .int)) (hlk : meth.locks = false) {w : mc_w} (K : mc_K mc_k 152 w s) {R : Nat → Nat → Option Nat} {Iz : Nat → Nat → Int32} {rz : Int32} : ∀ (I : Nat → Nat → Int32) (v0 : Nat) (v1 : Int32) (v2 : Int32) (v3 : Int32) (v4 : Int32), mi_X7_change_J68 I v0 v1 v2 v3 v4 = some (Iz, rz) → (mc_k v0 = 7) → ∀ {H : Heap} {locs : List Loc} {ls : Array Slot}, mc_P mc_k 152 w I R H → va_S (mc_A 152 w) s.heap H locs → lv_has ls 5 [(0, .ref (w.2.2.1 v0)), (1, .int v1), (2, .int v2), (3, .int v3), (4, .int v4)] → W p l e ({ frames := 1, cells := 0, slots := 0, locals := 21 } : Room) s m args below meth c H locs 0 0 (MQ below (mc_Q (some (.int rz)) (mc_B mc_k 152 w Iz R) (mc_A 152 w)) args s 0 0 (mc_A 152 w)) (F0 m 68 ls []) := by
  intro I v0 v1 v2 v3 v4 h kv0 H locs ls hP hS hl
  have hx := C.1
  have hb := C.2.1
  have hC := And.intro C.1 C.2.1
  unfold mi_X7_change_J68 at h
  refine lv_aload_n hx hb dX7_change_68 rfl (lv_at hl 0 rfl) ?_
  refine mf_X7_9 C K hP kv0 dX7_change_69 ?_
  refine lv_iload_n hx hb dX7_change_72 rfl (lv_at hl 1 rfl) ?_
  refine lv_iload_n hx hb dX7_change_73 rfl (lv_at hl 2 rfl) ?_
  obtain ⟨g11, h⟩ := mc_gd h
  obtain ⟨I12, eI12, h⟩ := mc_bn_e h
  refine ma_s11 hC K hP hS (kk_7_1 kv0) g11 eI12 dX7_change_74 (fun H locs hP hS => ?_)
  refine lv_aload_n hx hb dX7_change_75 rfl (lv_at hl 0 rfl) ?_
  refine mf_X7_15 C K hP kv0 dX7_change_76 ?_
  refine lv_iload_n hx hb dX7_change_79 rfl (lv_at hl 1 rfl) ?_
  refine lv_iload_n hx hb dX7_change_80 rfl (lv_at hl 3 rfl) ?_
  obtain ⟨g13, h⟩ := mc_gd h
  obtain ⟨I14, eI14, h⟩ := mc_bn_e h
  refine ma_s11 hC K hP hS (kk_7_2 kv0) g13 eI14 dX7_change_81 (fun H locs hP hS => ?_)
  refine lv_iload hx hb dX7_change_82 (lv_at hl 4 rfl) ?_
  cases h
  exact mt_i hC hr hlk K hP hS dX7_change_84
set_option maxHeartbeats 4000000 in
set_option maxRecDepth 100000 in
theorem ct_X7_change (l : Launch) {w : mc_w} {I : Nat → Nat → Int32} {R : Nat → Nat → Option Nat} {v0 : Nat} {v1 : Int32} {v2 : Int32} {v3 : Int32} (kv0 : mc_k v0 = 7) {Iz : Nat → Nat → Int32} {rz : Int32} (h : mi_X7_change I v0 v1 v2 v3 = some (Iz, rz)) : Met l yX7_change (Cond.code yX7_change cX7_change 5 (some .int) :: mc_big) ({ frames := 1, cells := 0, slots := 0, locals := 21 } : Room) (va_Pc [.ref (w.2.2.1 v0), .int v1, .int v2, .int v3] (mc_B mc_k 152 w I R)) (mc_Q (some (.int rz)) (mc_B mc_k 152 w Iz R) (mc_A 152 w)) 0 0 (mc_A 152 w) := by
  refine Met.ofW (cc := cX7_change) (maxL := 5) (ret := (some .int)) (by decide) rfl ?_
  intro p e s m args below meth c s₁ B hml hv
  obtain ⟨rfl, hP, K⟩ := hv
  have hown : s.vm.findClass RX7 = some m.cls := findClass_of_methodNamed B.named
  have C : CallFix p m c cX7_change 5 s _ mc_big RX7 := ⟨B.exec, B.bytes, hml, hown, fun w hw => atoms_spec B.pre w (List.mem_cons_of_mem _ hw)⟩
  have hx := C.1
  have hb := C.2.1
  have hC := And.intro C.1 C.2.1
  have hr := B.returns
  have hlk := B.notSynchronized
  have hS : va_S (mc_A 152 w) s.heap s.heap [] := va_S.rf
  have hl := lv_entry ([.ref (w.2.2.1 v0), .int v1, .int v2, .int v3]) (n := 5) (Nat.le_of_ble_eq_true rfl)
  rw [lg_entry_eq]
  generalize (lg_sl ([.ref (w.2.2.1 v0), .int v1, .int v2, .int v3]) ++ List.replicate (5 - (lg_sl ([.ref (w.2.2.1 v0), .int v1, .int v2, .int v3])).length) Slot.unset).toArray = ls at hl ⊢
  have hl : lv_has ls 5 [(0, .ref (w.2.2.1 v0)), (1, .int v1), (2, .int v2), (3, .int v3)] := hl
  unfold mi_X7_change at h
  refine lv_aload_n hx hb dX7_change_0 rfl (lv_at hl 0 rfl) ?_
  refine lv_iload_n hx hb dX7_change_1 rfl (lv_at hl 1 rfl) ?_
  refine mg_Vz (As := [.int v1]) (rest := []) (ct_X7_has l (w := w) (I := I) (R := R) kv0 rfl) C K hP hS hl.1 kv0 (by decide) rfl rfl ml_X7_18 wy_X7_has wd_X7_has rfl rfl rfl ⟨Nat.le_of_ble_eq_true rfl, Nat.le_of_ble_eq_true rfl⟩ (Nat.le_of_ble_eq_true rfl) ⟨Nat.zero_le _, Nat.zero_le _⟩ dX7_change_2 (fun H locs hP z2 hS => ?_)
  refine lv_if_ne (tgt := 12) hx hb dX7_change_5 (by decide) (fun c3 => ?_) (fun c3 => ?_)
  · replace h := mc_ie h c3
    refine lv_iload_n hx hb dX7_change_12 rfl (lv_at hl 2 rfl) ?_
    refine lv_bipush (v := (-20)) hx hb dX7_change_13 (by decide) ?_
    refine lv_icmp_lt (tgt := 36) hx hb dX7_change_15 (by decide) (fun c4 => ?_) (fun c4 => ?_)
    · replace h := mc_it h c4
      refine lv_sipush (v := (-1002)) hx hb dX7_change_36 (by decide) ?_
      cases h
      exact mt_i hC hr hlk K hP hS dX7_change_39
    · replace h := mc_ie h c4
      refine lv_iload_n hx hb dX7_change_18 rfl (lv_at hl 2 rfl) ?_
      refine lv_sipush (v := 300) hx hb dX7_change_19 (by decide) ?_
      refine lv_icmp_gt (tgt := 36) hx hb dX7_change_22 (by decide) (fun c5 => ?_) (fun c5 => ?_)
      · replace h := mc_it h c5
        refine lv_sipush (v := (-1002)) hx hb dX7_change_36 (by decide) ?_
        cases h
        exact mt_i hC hr hlk K hP hS dX7_change_39
      · replace h := mc_ie h c5
        refine lv_iload_n hx hb dX7_change_25 rfl (lv_at hl 3 rfl) ?_
        refine lv_if_lt (tgt := 36) hx hb dX7_change_26 (by decide) (fun c6 => ?_) (fun c6 => ?_)
        · replace h := mc_it h c6
          refine lv_sipush (v := (-1002)) hx hb dX7_change_36 (by decide) ?_
          cases h
          exact mt_i hC hr hlk K hP hS dX7_change_39
        · replace h := mc_ie h c6
          refine lv_iload_n hx hb dX7_change_29 rfl (lv_at hl 3 rfl) ?_
          refine lv_sipush (v := 420) hx hb dX7_change_30 (by decide) ?_
          refine lv_icmp_le (tgt := 40) hx hb dX7_change_33 (by decide) (fun c7 => ?_) (fun c7 => ?_)
          · replace h := mc_it h c7
            refine lv_aload_n hx hb dX7_change_40 rfl (lv_at hl 0 rfl) ?_
            refine mf_X7_9 C K hP kv0 dX7_change_41 ?_
            refine lv_iload_n hx hb dX7_change_44 rfl (lv_at hl 1 rfl) ?_
            obtain ⟨g8, h⟩ := mc_gd h
            refine ma_l11 hC K hP (kk_7_1 kv0) g8 dX7_change_45 ?_
            obtain ⟨x9, ex9, h⟩ := mc_bn_e h
            refine mv_top ex9 ?_
            refine lv_istore (i := 4) (lv' := [(4, .int x9), (0, .ref (w.2.2.1 v0)), (1, .int v1), (2, .int v2), (3, .int v3)]) hx hb dX7_change_46 hl (by decide) rfl (fun ls hl => ?_)
            refine lv_iload hx hb dX7_change_48 (lv_at hl 0 rfl) ?_
            refine lv_iload_n hx hb dX7_change_50 rfl (lv_at hl 3 rfl) ?_
            refine lv_icmp_ne (tgt := 68) hx hb dX7_change_51 (by decide) (fun c10 => ?_) (fun c10 => ?_)
            · replace h := mc_ie h c10
              exact bk_X7_change_J68 C hr hlk K  I v0 v1 v2 v3 x9 h kv0 hP hS (lv_sub hl [1, 2, 3, 4, 0] rfl)
            · replace h := mc_it h c10
              refine lv_aload_n hx hb dX7_change_54 rfl (lv_at hl 1 rfl) ?_
              refine mf_X7_15 C K hP kv0 dX7_change_55 ?_
              refine lv_iload_n hx hb dX7_change_58 rfl (lv_at hl 2 rfl) ?_
              obtain ⟨g15, h⟩ := mc_gd h
              refine ma_l11 hC K hP (kk_7_2 kv0) g15 dX7_change_59 ?_
              refine lv_iload_n hx hb dX7_change_60 rfl (lv_at hl 4 rfl) ?_
              refine lv_icmp_ne (tgt := 68) hx hb dX7_change_61 (by decide) (fun c16 => ?_) (fun c16 => ?_)
              · replace h := mc_ie h c16
                exact bk_X7_change_J68 C hr hlk K  I v0 v1 v2 v3 x9 h kv0 hP hS (lv_sub hl [1, 2, 3, 4, 0] rfl)
              · replace h := mc_it h c16
                refine lv_sipush (v := (-1005)) hx hb dX7_change_64 (by decide) ?_
                cases h
                exact mt_i hC hr hlk K hP hS dX7_change_67
          · replace h := mc_ie h c7
            refine lv_sipush (v := (-1002)) hx hb dX7_change_36 (by decide) ?_
            cases h
            exact mt_i hC hr hlk K hP hS dX7_change_39
  · replace h := mc_it h c3
    refine lv_sipush (v := (-1001)) hx hb dX7_change_8 (by decide) ?_
    cases h
    exact mt_i hC hr hlk K hP hS dX7_change_11
set_option maxHeartbeats 4000000 in
set_option maxRecDepth 100000 in
theorem ct_X8_isDone (l : Launch) {w : mc_w} {I : Nat → Nat → Int32} {R : Nat → Nat → Option Nat} {v0 : Int32} {rz : Int32} (h : mi_X8_isDone v0 = rz) : Met l yX8_isDone (Cond.code yX8_isDone cX8_isDone 1 (some .boolean) :: mc_big) ({ frames := 0, cells := 0, slots := 0, locals := 0 } : Room) (va_Pc [.int v0] (mc_B mc_k 152 w I R)) (mc_Q (some (.int rz)) (fun t => mc_B mc_k 152 w I R t ∧ ¬ (rz ≠ 0 ∧ rz ≠ 1)) (mc_A 152 w)) 0 0 (mc_A 152 w) := by
  refine Met.ofW (cc := cX8_isDone) (maxL := 1) (ret := (some .boolean)) (by decide) rfl ?_
  intro p e s m args below meth c s₁ B hml hv
  obtain ⟨rfl, hP, K⟩ := hv
  have hown : s.vm.findClass RX8 = some m.cls := findClass_of_methodNamed B.named
  have C : CallFix p m c cX8_isDone 1 s _ mc_big RX8 := ⟨B.exec, B.bytes, hml, hown, fun w hw => atoms_spec B.pre w (List.mem_cons_of_mem _ hw)⟩
  have hx := C.1
  have hb := C.2.1
  have hC := And.intro C.1 C.2.1
  have hr := B.returns
  have hlk := B.notSynchronized
  have hS : va_S (mc_A 152 w) s.heap s.heap [] := va_S.rf
  have hl := lv_entry ([.int v0]) (n := 1) (Nat.le_of_ble_eq_true rfl)
  rw [lg_entry_eq]
  generalize (lg_sl ([.int v0]) ++ List.replicate (1 - (lg_sl ([.int v0])).length) Slot.unset).toArray = ls at hl ⊢
  have hl : lv_has ls 1 [(0, .int v0)] := hl
  unfold mi_X8_isDone at h
  refine lv_iload_n hx hb dX8_isDone_0 rfl (lv_at hl 0 rfl) ?_
  refine lv_sipush (v := (-1001)) hx hb dX8_isDone_1 (by decide) ?_
  refine lv_icmp_le (tgt := 11) hx hb dX8_isDone_4 (by decide) (fun c1 => ?_) (fun c1 => ?_)
  · replace h := mc_it h c1
    refine lv_iconst (v := 0) hx hb dX8_isDone_11 (by decide) ?_
    cases h
    exact mt_zX hC hr hlk K hP hS (by decide) (by decide) dX8_isDone_12
  · replace h := mc_ie h c1
    refine lv_iconst (v := 1) hx hb dX8_isDone_7 (by decide) ?_
    refine lv_goto (tgt := 12) hx hb dX8_isDone_8 (by decide) ?_
    cases h
    exact mt_zX hC hr hlk K hP hS (by decide) (by decide) dX8_isDone_12
set_option maxHeartbeats 4000000 in
set_option maxRecDepth 100000 in
theorem ct_X8_recorded (l : Launch) {w : mc_w} {I : Nat → Nat → Int32} {R : Nat → Nat → Option Nat} {F : Nat} {v1 : Int32} {Iz : Nat → Nat → Int32} {Rz : Nat → Nat → Option Nat} {rz : Int32} (h : mi_X8_recorded F I R v1 = some (Iz, Rz, rz)) : Met l yX8_recorded (Cond.code yX8_recorded cX8_recorded 2 (some .int) :: mc_big) ({ frames := 3, cells := 0, slots := 0, locals := 68 } : Room) (va_Pc [.ref (w.2.2.1 144), .int v1] (mc_B mc_k 152 w I R)) (mc_Q (some (.int rz)) (mc_B mc_k 152 w Iz Rz) (mc_A 152 w)) 0 0 (mc_A 152 w) := by
  refine Met.ofW (cc := cX8_recorded) (maxL := 2) (ret := (some .int)) (by decide) rfl ?_
  intro p e s m args below meth c s₁ B hml hv
  obtain ⟨rfl, hP, K⟩ := hv
  have hown : s.vm.findClass RX8 = some m.cls := findClass_of_methodNamed B.named
  have C : CallFix p m c cX8_recorded 2 s _ mc_big RX8 := ⟨B.exec, B.bytes, hml, hown, fun w hw => atoms_spec B.pre w (List.mem_cons_of_mem _ hw)⟩
  have hx := C.1
  have hb := C.2.1
  have hC := And.intro C.1 C.2.1
  have hr := B.returns
  have hlk := B.notSynchronized
  have hS : va_S (mc_A 152 w) s.heap s.heap [] := va_S.rf
  have hl := lv_entry ([.ref (w.2.2.1 144), .int v1]) (n := 2) (Nat.le_of_ble_eq_true rfl)
  rw [lg_entry_eq]
  generalize (lg_sl ([.ref (w.2.2.1 144), .int v1]) ++ List.replicate (2 - (lg_sl ([.ref (w.2.2.1 144), .int v1])).length) Slot.unset).toArray = ls at hl ⊢
  have hl : lv_has ls 2 [(0, .ref (w.2.2.1 144)), (1, .int v1)] := hl
  unfold mi_X8_recorded at h
  refine lv_iload_n hx hb dX8_recorded_0 rfl (lv_at hl 1 rfl) ?_
  refine mg_Sz (As := [.int v1]) (rest := []) (ct_X8_isDone l (w := w) (I := I) (R := R) rfl) C K hP hS hl.1 ml_X8_117 wy_X8_isDone wd_X8_isDone rfl rfl rfl ⟨Nat.le_of_ble_eq_true rfl, Nat.le_of_ble_eq_true rfl⟩ (Nat.le_of_ble_eq_true rfl) ⟨Nat.zero_le _, Nat.zero_le _⟩ dX8_recorded_1 (fun H locs hP z2 hS => ?_)
  refine lv_if_eq (tgt := 18) hx hb dX8_recorded_4 (by decide) (fun c3 => ?_) (fun c3 => ?_)
  · replace h := mc_it h c3
    refine lv_iload_n hx hb dX8_recorded_18 rfl (lv_at hl 1 rfl) ?_
    cases h
    exact mt_i hC hr hlk K hP hS dX8_recorded_19
  · replace h := mc_ie h c3
    refine lv_aload_n hx hb dX8_recorded_7 rfl (lv_at hl 0 rfl) ?_
    refine mf_X8_28 C K hP kf_144 dX8_recorded_8 ?_
    refine lv_aload_n hx hb dX8_recorded_11 rfl (lv_at hl 0 rfl) ?_
    refine mf_X8_16 C K hP kf_144 dX8_recorded_12 ?_
    obtain ⟨I4, R5, e6, h⟩ := mc_ob2_e h
    refine mg_Vv (As := [.ref (w.2.2.1 18)]) (rest := []) (ct_X3_add l (w := w) (I := I) (R := R) kf_18 e6) C K hP hS hl.1 kf_145 (by decide) rfl rfl ml_X8_125 wy_X3_add wd_X3_add rfl rfl rfl ⟨Nat.le_of_ble_eq_true rfl, Nat.le_of_ble_eq_true rfl⟩ (Nat.le_of_ble_eq_true rfl) ⟨Nat.zero_le _, Nat.zero_le _⟩ dX8_recorded_15 (fun H locs hP hS => ?_)
    refine lv_iload_n hx hb dX8_recorded_18 rfl (lv_at hl 1 rfl) ?_
    cases h
    exact mt_i hC hr hlk K hP hS dX8_recorded_19
set_option maxHeartbeats 4000000 in
set_option maxRecDepth 100000 in
theorem ct_X8_pay (l : Launch) {w : mc_w} {I : Nat → Nat → Int32} {R : Nat → Nat → Option Nat} {F : Nat} {v1 : Int32} {Iz : Nat → Nat → Int32} {Rz : Nat → Nat → Option Nat} {rz : Int32} (h : mi_X8_pay F I R v1 = some (Iz, Rz, rz)) : Met l yX8_pay (Cond.code yX8_pay cX8_pay 2 (some .int) :: mc_big) ({ frames := 5, cells := 0, slots := 0, locals := 109 } : Room) (va_Pc [.ref (w.2.2.1 144), .int v1] (mc_B mc_k 152 w I R)) (mc_Q (some (.int rz)) (mc_B mc_k 152 w Iz Rz) (mc_A 152 w)) 0 0 (mc_A 152 w) := by
  refine Met.ofW (cc := cX8_pay) (maxL := 2) (ret := (some .int)) (by decide) rfl ?_
  intro p e s m args below meth c s₁ B hml hv
  obtain ⟨rfl, hP, K⟩ := hv
  have hown : s.vm.findClass RX8 = some m.cls := findClass_of_methodNamed B.named
  have C : CallFix p m c cX8_pay 2 s _ mc_big RX8 := ⟨B.exec, B.bytes, hml, hown, fun w hw => atoms_spec B.pre w (List.mem_cons_of_mem _ hw)⟩
  have hx := C.1
  have hb := C.2.1
  have hC := And.intro C.1 C.2.1
  have hr := B.returns
  have hlk := B.notSynchronized
  have hS : va_S (mc_A 152 w) s.heap s.heap [] := va_S.rf
  have hl := lv_entry ([.ref (w.2.2.1 144), .int v1]) (n := 2) (Nat.le_of_ble_eq_true rfl)
  rw [lg_entry_eq]
  generalize (lg_sl ([.ref (w.2.2.1 144), .int v1]) ++ List.replicate (2 - (lg_sl ([.ref (w.2.2.1 144), .int v1])).length) Slot.unset).toArray = ls at hl ⊢
  have hl : lv_has ls 2 [(0, .ref (w.2.2.1 144)), (1, .int v1)] := hl
  unfold mi_X8_pay at h
  refine lv_aload_n hx hb dX8_pay_0 rfl (lv_at hl 0 rfl) ?_
  refine mf_X8_16 C K hP kf_144 dX8_pay_1 ?_
  refine lv_aload_n hx hb dX8_pay_4 rfl (lv_at hl 0 rfl) ?_
  refine mf_X8_10 C K hP kf_144 dX8_pay_5 ?_
  obtain ⟨I1, e2, h⟩ := mc_ob_e h
  refine mg_Vv (As := [.ref (w.2.2.1 0)]) (rest := []) (ct_X5_copyFrom l (w := w) (I := I) (R := R) kf_18 kf_0 e2) C K hP hS hl.1 kf_18 (by decide) rfl rfl ml_X8_46 wy_X5_copyFrom wd_X5_copyFrom rfl rfl rfl ⟨Nat.le_of_ble_eq_true rfl, Nat.le_of_ble_eq_true rfl⟩ (Nat.le_of_ble_eq_true rfl) ⟨Nat.zero_le _, Nat.zero_le _⟩ dX8_pay_8 (fun H locs hP hS => ?_)
  refine lv_aload_n hx hb dX8_pay_11 rfl (lv_at hl 0 rfl) ?_
  refine lv_aload_n hx hb dX8_pay_12 rfl (lv_at hl 0 rfl) ?_
  refine mf_X8_10 C K hP kf_144 dX8_pay_13 ?_
  refine lv_iload_n hx hb dX8_pay_16 rfl (lv_at hl 1 rfl) ?_
  obtain ⟨I3, r4, e5, h⟩ := mc_ob2_e h
  refine mg_Vi (As := [.int v1]) (rest := [.ref (w.2.2.1 144)]) (ct_X5_payOut l (w := w) (I := I1) (R := R) kf_0 e5) C K hP hS hl.1 kf_0 (by decide) rfl rfl ml_X8_50 wy_X5_payOut wd_X5_payOut rfl rfl rfl ⟨Nat.le_of_ble_eq_true rfl, Nat.le_of_ble_eq_true rfl⟩ (Nat.le_of_ble_eq_true rfl) ⟨Nat.zero_le _, Nat.zero_le _⟩ dX8_pay_17 (fun H locs hP hS => ?_)
  obtain ⟨I6, R7, r8, e9, h⟩ := mc_ob3_e h
  refine mg_Vi (As := [.int r4]) (rest := []) (ct_X8_recorded l (w := w) (I := I3) (R := R) e9) C K hP hS hl.1 kf_144 (by decide) rfl rfl ml_X8_54 wy_X8_recorded wd_X8_recorded rfl rfl rfl ⟨Nat.le_of_ble_eq_true rfl, Nat.le_of_ble_eq_true rfl⟩ (Nat.le_of_ble_eq_true rfl) ⟨Nat.zero_le _, Nat.zero_le _⟩ dX8_pay_20 (fun H locs hP hS => ?_)
  cases h
  exact mt_i hC hr hlk K hP hS dX8_pay_23
set_option maxHeartbeats 4000000 in
set_option maxRecDepth 100000 in
theorem ct_X8_setSlope (l : Launch) {w : mc_w} {I : Nat → Nat → Int32} {R : Nat → Nat → Option Nat} {F : Nat} {v1 : Int32} {Iz : Nat → Nat → Int32} {Rz : Nat → Nat → Option Nat} {rz : Int32} (h : mi_X8_setSlope F I R v1 = some (Iz, Rz, rz)) : Met l yX8_setSlope (Cond.code yX8_setSlope cX8_setSlope 2 (some .int) :: mc_big) ({ frames := 4, cells := 0, slots := 0, locals := 89 } : Room) (va_Pc [.ref (w.2.2.1 144), .int v1] (mc_B mc_k 152 w I R)) (mc_Q (some (.int rz)) (mc_B mc_k 152 w Iz Rz) (mc_A 152 w)) 0 0 (mc_A 152 w) := by
  refine Met.ofW (cc := cX8_setSlope) (maxL := 2) (ret := (some .int)) (by decide) rfl ?_
  intro p e s m args below meth c s₁ B hml hv
  obtain ⟨rfl, hP, K⟩ := hv
  have hown : s.vm.findClass RX8 = some m.cls := findClass_of_methodNamed B.named
  have C : CallFix p m c cX8_setSlope 2 s _ mc_big RX8 := ⟨B.exec, B.bytes, hml, hown, fun w hw => atoms_spec B.pre w (List.mem_cons_of_mem _ hw)⟩
  have hx := C.1
  have hb := C.2.1
  have hC := And.intro C.1 C.2.1
  have hr := B.returns
  have hlk := B.notSynchronized
  have hS : va_S (mc_A 152 w) s.heap s.heap [] := va_S.rf
  have hl := lv_entry ([.ref (w.2.2.1 144), .int v1]) (n := 2) (Nat.le_of_ble_eq_true rfl)
  rw [lg_entry_eq]
  generalize (lg_sl ([.ref (w.2.2.1 144), .int v1]) ++ List.replicate (2 - (lg_sl ([.ref (w.2.2.1 144), .int v1])).length) Slot.unset).toArray = ls at hl ⊢
  have hl : lv_has ls 2 [(0, .ref (w.2.2.1 144)), (1, .int v1)] := hl
  unfold mi_X8_setSlope at h
  refine lv_aload_n hx hb dX8_setSlope_0 rfl (lv_at hl 0 rfl) ?_
  refine mf_X8_16 C K hP kf_144 dX8_setSlope_1 ?_
  refine lv_aload_n hx hb dX8_setSlope_4 rfl (lv_at hl 0 rfl) ?_
  refine mf_X8_10 C K hP kf_144 dX8_setSlope_5 ?_
  obtain ⟨I1, e2, h⟩ := mc_ob_e h
  refine mg_Vv (As := [.ref (w.2.2.1 0)]) (rest := []) (ct_X5_copyFrom l (w := w) (I := I) (R := R) kf_18 kf_0 e2) C K hP hS hl.1 kf_18 (by decide) rfl rfl ml_X8_46 wy_X5_copyFrom wd_X5_copyFrom rfl rfl rfl ⟨Nat.le_of_ble_eq_true rfl, Nat.le_of_ble_eq_true rfl⟩ (Nat.le_of_ble_eq_true rfl) ⟨Nat.zero_le _, Nat.zero_le _⟩ dX8_setSlope_8 (fun H locs hP hS => ?_)
  refine lv_aload_n hx hb dX8_setSlope_11 rfl (lv_at hl 0 rfl) ?_
  refine lv_aload_n hx hb dX8_setSlope_12 rfl (lv_at hl 0 rfl) ?_
  refine mf_X8_10 C K hP kf_144 dX8_setSlope_13 ?_
  refine lv_iload_n hx hb dX8_setSlope_16 rfl (lv_at hl 1 rfl) ?_
  obtain ⟨I3, r4, e5, h⟩ := mc_bn2_e h
  refine mg_Vi (As := [.int v1]) (rest := [.ref (w.2.2.1 144)]) (ct_X5_changeSlope l (w := w) (I := I1) (R := R) kf_0 e5) C K hP hS hl.1 kf_0 (by decide) rfl rfl ml_X8_57 wy_X5_changeSlope wd_X5_changeSlope rfl rfl rfl ⟨Nat.le_of_ble_eq_true rfl, Nat.le_of_ble_eq_true rfl⟩ (Nat.le_of_ble_eq_true rfl) ⟨Nat.zero_le _, Nat.zero_le _⟩ dX8_setSlope_17 (fun H locs hP hS => ?_)
  obtain ⟨I6, R7, r8, e9, h⟩ := mc_ob3_e h
  refine mg_Vi (As := [.int r4]) (rest := []) (ct_X8_recorded l (w := w) (I := I3) (R := R) e9) C K hP hS hl.1 kf_144 (by decide) rfl rfl ml_X8_54 wy_X8_recorded wd_X8_recorded rfl rfl rfl ⟨Nat.le_of_ble_eq_true rfl, Nat.le_of_ble_eq_true rfl⟩ (Nat.le_of_ble_eq_true rfl) ⟨Nat.zero_le _, Nat.zero_le _⟩ dX8_setSlope_20 (fun H locs hP hS => ?_)
  cases h
  exact mt_i hC hr hlk K hP hS dX8_setSlope_23
set_option maxHeartbeats 4000000 in
set_option maxRecDepth 100000 in
theorem ct_X8_weight (l : Launch) {w : mc_w} {I : Nat → Nat → Int32} {R : Nat → Nat → Option Nat} {F : Nat} {v1 : Int32} {Iz : Nat → Nat → Int32} {Rz : Nat → Nat → Option Nat} {rz : Int32} (h : mi_X8_weight F I R v1 = some (Iz, Rz, rz)) : Met l yX8_weight (Cond.code yX8_weight cX8_weight 2 (some .int) :: mc_big) ({ frames := 4, cells := 0, slots := 0, locals := 89 } : Room) (va_Pc [.ref (w.2.2.1 144), .int v1] (mc_B mc_k 152 w I R)) (mc_Q (some (.int rz)) (mc_B mc_k 152 w Iz Rz) (mc_A 152 w)) 0 0 (mc_A 152 w) := by
  refine Met.ofW (cc := cX8_weight) (maxL := 2) (ret := (some .int)) (by decide) rfl ?_
  intro p e s m args below meth c s₁ B hml hv
  obtain ⟨rfl, hP, K⟩ := hv
  have hown : s.vm.findClass RX8 = some m.cls := findClass_of_methodNamed B.named
  have C : CallFix p m c cX8_weight 2 s _ mc_big RX8 := ⟨B.exec, B.bytes, hml, hown, fun w hw => atoms_spec B.pre w (List.mem_cons_of_mem _ hw)⟩
  have hx := C.1
  have hb := C.2.1
  have hC := And.intro C.1 C.2.1
  have hr := B.returns
  have hlk := B.notSynchronized
  have hS : va_S (mc_A 152 w) s.heap s.heap [] := va_S.rf
  have hl := lv_entry ([.ref (w.2.2.1 144), .int v1]) (n := 2) (Nat.le_of_ble_eq_true rfl)
  rw [lg_entry_eq]
  generalize (lg_sl ([.ref (w.2.2.1 144), .int v1]) ++ List.replicate (2 - (lg_sl ([.ref (w.2.2.1 144), .int v1])).length) Slot.unset).toArray = ls at hl ⊢
  have hl : lv_has ls 2 [(0, .ref (w.2.2.1 144)), (1, .int v1)] := hl
  unfold mi_X8_weight at h
  refine lv_aload_n hx hb dX8_weight_0 rfl (lv_at hl 0 rfl) ?_
  refine mf_X8_16 C K hP kf_144 dX8_weight_1 ?_
  refine lv_aload_n hx hb dX8_weight_4 rfl (lv_at hl 0 rfl) ?_
  refine mf_X8_10 C K hP kf_144 dX8_weight_5 ?_
  obtain ⟨I1, e2, h⟩ := mc_ob_e h
  refine mg_Vv (As := [.ref (w.2.2.1 0)]) (rest := []) (ct_X5_copyFrom l (w := w) (I := I) (R := R) kf_18 kf_0 e2) C K hP hS hl.1 kf_18 (by decide) rfl rfl ml_X8_46 wy_X5_copyFrom wd_X5_copyFrom rfl rfl rfl ⟨Nat.le_of_ble_eq_true rfl, Nat.le_of_ble_eq_true rfl⟩ (Nat.le_of_ble_eq_true rfl) ⟨Nat.zero_le _, Nat.zero_le _⟩ dX8_weight_8 (fun H locs hP hS => ?_)
  refine lv_aload_n hx hb dX8_weight_11 rfl (lv_at hl 0 rfl) ?_
  refine lv_aload_n hx hb dX8_weight_12 rfl (lv_at hl 0 rfl) ?_
  refine mf_X8_10 C K hP kf_144 dX8_weight_13 ?_
  refine lv_iload_n hx hb dX8_weight_16 rfl (lv_at hl 1 rfl) ?_
  obtain ⟨I3, r4, e5, h⟩ := mc_ob2_e h
  refine mg_Vi (As := [.int v1]) (rest := [.ref (w.2.2.1 144)]) (ct_X5_changeWeight l (w := w) (I := I1) (R := R) kf_0 e5) C K hP hS hl.1 kf_0 (by decide) rfl rfl ml_X8_60 wy_X5_changeWeight wd_X5_changeWeight rfl rfl rfl ⟨Nat.le_of_ble_eq_true rfl, Nat.le_of_ble_eq_true rfl⟩ (Nat.le_of_ble_eq_true rfl) ⟨Nat.zero_le _, Nat.zero_le _⟩ dX8_weight_17 (fun H locs hP hS => ?_)
  obtain ⟨I6, R7, r8, e9, h⟩ := mc_ob3_e h
  refine mg_Vi (As := [.int r4]) (rest := []) (ct_X8_recorded l (w := w) (I := I3) (R := R) e9) C K hP hS hl.1 kf_144 (by decide) rfl rfl ml_X8_54 wy_X8_recorded wd_X8_recorded rfl rfl rfl ⟨Nat.le_of_ble_eq_true rfl, Nat.le_of_ble_eq_true rfl⟩ (Nat.le_of_ble_eq_true rfl) ⟨Nat.zero_le _, Nat.zero_le _⟩ dX8_weight_20 (fun H locs hP hS => ?_)
  cases h
  exact mt_i hC hr hlk K hP hS dX8_weight_23
set_option maxHeartbeats 4000000 in
set_option maxRecDepth 100000 in
theorem ct_X8_clamp (l : Launch) {w : mc_w} {I : Nat → Nat → Int32} {R : Nat → Nat → Option Nat} {F : Nat} {v1 : Int32} {Iz : Nat → Nat → Int32} {Rz : Nat → Nat → Option Nat} {rz : Int32} (h : mi_X8_clamp F I R v1 = some (Iz, Rz, rz)) : Met l yX8_clamp (Cond.code yX8_clamp cX8_clamp 2 (some .int) :: mc_big) ({ frames := 4, cells := 0, slots := 0, locals := 89 } : Room) (va_Pc [.ref (w.2.2.1 144), .int v1] (mc_B mc_k 152 w I R)) (mc_Q (some (.int rz)) (mc_B mc_k 152 w Iz Rz) (mc_A 152 w)) 0 0 (mc_A 152 w) := by
  refine Met.ofW (cc := cX8_clamp) (maxL := 2) (ret := (some .int)) (by decide) rfl ?_
  intro p e s m args below meth c s₁ B hml hv
  obtain ⟨rfl, hP, K⟩ := hv
  have hown : s.vm.findClass RX8 = some m.cls := findClass_of_methodNamed B.named
  have C : CallFix p m c cX8_clamp 2 s _ mc_big RX8 := ⟨B.exec, B.bytes, hml, hown, fun w hw => atoms_spec B.pre w (List.mem_cons_of_mem _ hw)⟩
  have hx := C.1
  have hb := C.2.1
  have hC := And.intro C.1 C.2.1
  have hr := B.returns
  have hlk := B.notSynchronized
  have hS : va_S (mc_A 152 w) s.heap s.heap [] := va_S.rf
  have hl := lv_entry ([.ref (w.2.2.1 144), .int v1]) (n := 2) (Nat.le_of_ble_eq_true rfl)
  rw [lg_entry_eq]
  generalize (lg_sl ([.ref (w.2.2.1 144), .int v1]) ++ List.replicate (2 - (lg_sl ([.ref (w.2.2.1 144), .int v1])).length) Slot.unset).toArray = ls at hl ⊢
  have hl : lv_has ls 2 [(0, .ref (w.2.2.1 144)), (1, .int v1)] := hl
  unfold mi_X8_clamp at h
  refine lv_aload_n hx hb dX8_clamp_0 rfl (lv_at hl 0 rfl) ?_
  refine mf_X8_16 C K hP kf_144 dX8_clamp_1 ?_
  refine lv_aload_n hx hb dX8_clamp_4 rfl (lv_at hl 0 rfl) ?_
  refine mf_X8_10 C K hP kf_144 dX8_clamp_5 ?_
  obtain ⟨I1, e2, h⟩ := mc_ob_e h
  refine mg_Vv (As := [.ref (w.2.2.1 0)]) (rest := []) (ct_X5_copyFrom l (w := w) (I := I) (R := R) kf_18 kf_0 e2) C K hP hS hl.1 kf_18 (by decide) rfl rfl ml_X8_46 wy_X5_copyFrom wd_X5_copyFrom rfl rfl rfl ⟨Nat.le_of_ble_eq_true rfl, Nat.le_of_ble_eq_true rfl⟩ (Nat.le_of_ble_eq_true rfl) ⟨Nat.zero_le _, Nat.zero_le _⟩ dX8_clamp_8 (fun H locs hP hS => ?_)
  refine lv_aload_n hx hb dX8_clamp_11 rfl (lv_at hl 0 rfl) ?_
  refine lv_aload_n hx hb dX8_clamp_12 rfl (lv_at hl 0 rfl) ?_
  refine mf_X8_10 C K hP kf_144 dX8_clamp_13 ?_
  refine lv_iload_n hx hb dX8_clamp_16 rfl (lv_at hl 1 rfl) ?_
  obtain ⟨I3, R4, r5, e6, h⟩ := mc_ob3_e h
  refine mg_Vi (As := [.int v1]) (rest := [.ref (w.2.2.1 144)]) (ct_X5_addBottle l (w := w) (I := I1) (R := R) kf_0 e6) C K hP hS hl.1 kf_0 (by decide) rfl rfl ml_X8_64 wy_X5_addBottle wd_X5_addBottle rfl rfl rfl ⟨Nat.le_of_ble_eq_true rfl, Nat.le_of_ble_eq_true rfl⟩ (Nat.le_of_ble_eq_true rfl) ⟨Nat.zero_le _, Nat.zero_le _⟩ dX8_clamp_17 (fun H locs hP hS => ?_)
  obtain ⟨I7, R8, r9, e10, h⟩ := mc_ob3_e h
  refine mg_Vi (As := [.int r5]) (rest := []) (ct_X8_recorded l (w := w) (I := I3) (R := R4) e10) C K hP hS hl.1 kf_144 (by decide) rfl rfl ml_X8_54 wy_X8_recorded wd_X8_recorded rfl rfl rfl ⟨Nat.le_of_ble_eq_true rfl, Nat.le_of_ble_eq_true rfl⟩ (Nat.le_of_ble_eq_true rfl) ⟨Nat.zero_le _, Nat.zero_le _⟩ dX8_clamp_20 (fun H locs hP hS => ?_)
  cases h
  exact mt_i hC hr hlk K hP hS dX8_clamp_23
set_option maxHeartbeats 4000000 in
set_option maxRecDepth 100000 in
theorem ct_X8_takeOff (l : Launch) {w : mc_w} {I : Nat → Nat → Int32} {R : Nat → Nat → Option Nat} {F : Nat} {v1 : Int32} {Iz : Nat → Nat → Int32} {Rz : Nat → Nat → Option Nat} {rz : Int32} (h : mi_X8_takeOff F I R v1 = some (Iz, Rz, rz)) : Met l yX8_takeOff (Cond.code yX8_takeOff cX8_takeOff 2 (some .int) :: mc_big) ({ frames := 4, cells := 0, slots := 0, locals := 89 } : Room) (va_Pc [.ref (w.2.2.1 144), .int v1] (mc_B mc_k 152 w I R)) (mc_Q (some (.int rz)) (mc_B mc_k 152 w Iz Rz) (mc_A 152 w)) 0 0 (mc_A 152 w) := by
  refine Met.ofW (cc := cX8_takeOff) (maxL := 2) (ret := (some .int)) (by decide) rfl ?_
  intro p e s m args below meth c s₁ B hml hv
  obtain ⟨rfl, hP, K⟩ := hv
  have hown : s.vm.findClass RX8 = some m.cls := findClass_of_methodNamed B.named
  have C : CallFix p m c cX8_takeOff 2 s _ mc_big RX8 := ⟨B.exec, B.bytes, hml, hown, fun w hw => atoms_spec B.pre w (List.mem_cons_of_mem _ hw)⟩
  have hx := C.1
  have hb := C.2.1
  have hC := And.intro C.1 C.2.1
  have hr := B.returns
  have hlk := B.notSynchronized
  have hS : va_S (mc_A 152 w) s.heap s.heap [] := va_S.rf
  have hl := lv_entry ([.ref (w.2.2.1 144), .int v1]) (n := 2) (Nat.le_of_ble_eq_true rfl)
  rw [lg_entry_eq]
  generalize (lg_sl ([.ref (w.2.2.1 144), .int v1]) ++ List.replicate (2 - (lg_sl ([.ref (w.2.2.1 144), .int v1])).length) Slot.unset).toArray = ls at hl ⊢
  have hl : lv_has ls 2 [(0, .ref (w.2.2.1 144)), (1, .int v1)] := hl
  unfold mi_X8_takeOff at h
  refine lv_aload_n hx hb dX8_takeOff_0 rfl (lv_at hl 0 rfl) ?_
  refine mf_X8_16 C K hP kf_144 dX8_takeOff_1 ?_
  refine lv_aload_n hx hb dX8_takeOff_4 rfl (lv_at hl 0 rfl) ?_
  refine mf_X8_10 C K hP kf_144 dX8_takeOff_5 ?_
  obtain ⟨I1, e2, h⟩ := mc_ob_e h
  refine mg_Vv (As := [.ref (w.2.2.1 0)]) (rest := []) (ct_X5_copyFrom l (w := w) (I := I) (R := R) kf_18 kf_0 e2) C K hP hS hl.1 kf_18 (by decide) rfl rfl ml_X8_46 wy_X5_copyFrom wd_X5_copyFrom rfl rfl rfl ⟨Nat.le_of_ble_eq_true rfl, Nat.le_of_ble_eq_true rfl⟩ (Nat.le_of_ble_eq_true rfl) ⟨Nat.zero_le _, Nat.zero_le _⟩ dX8_takeOff_8 (fun H locs hP hS => ?_)
  refine lv_aload_n hx hb dX8_takeOff_11 rfl (lv_at hl 0 rfl) ?_
  refine lv_aload_n hx hb dX8_takeOff_12 rfl (lv_at hl 0 rfl) ?_
  refine mf_X8_10 C K hP kf_144 dX8_takeOff_13 ?_
  refine lv_iload_n hx hb dX8_takeOff_16 rfl (lv_at hl 1 rfl) ?_
  obtain ⟨I3, R4, r5, e6, h⟩ := mc_ob3_e h
  refine mg_Vi (As := [.int v1]) (rest := [.ref (w.2.2.1 144)]) (ct_X5_removeBottle l (w := w) (I := I1) (R := R) kf_0 e6) C K hP hS hl.1 kf_0 (by decide) rfl rfl ml_X8_67 wy_X5_removeBottle wd_X5_removeBottle rfl rfl rfl ⟨Nat.le_of_ble_eq_true rfl, Nat.le_of_ble_eq_true rfl⟩ (Nat.le_of_ble_eq_true rfl) ⟨Nat.zero_le _, Nat.zero_le _⟩ dX8_takeOff_17 (fun H locs hP hS => ?_)
  obtain ⟨I7, R8, r9, e10, h⟩ := mc_ob3_e h
  refine mg_Vi (As := [.int r5]) (rest := []) (ct_X8_recorded l (w := w) (I := I3) (R := R4) e10) C K hP hS hl.1 kf_144 (by decide) rfl rfl ml_X8_54 wy_X8_recorded wd_X8_recorded rfl rfl rfl ⟨Nat.le_of_ble_eq_true rfl, Nat.le_of_ble_eq_true rfl⟩ (Nat.le_of_ble_eq_true rfl) ⟨Nat.zero_le _, Nat.zero_le _⟩ dX8_takeOff_20 (fun H locs hP hS => ?_)
  cases h
  exact mt_i hC hr hlk K hP hS dX8_takeOff_23
set_option maxHeartbeats 4000000 in
set_option maxRecDepth 100000 in
theorem ct_X8_send (l : Launch) {w : mc_w} {I : Nat → Nat → Int32} {R : Nat → Nat → Option Nat} {F : Nat} {Iz : Nat → Nat → Int32} {Rz : Nat → Nat → Option Nat} {rz : Int32} (h : mi_X8_send F I R = some (Iz, Rz, rz)) : Met l yX8_send (Cond.code yX8_send cX8_send 1 (some .int) :: mc_big) ({ frames := 4, cells := 0, slots := 0, locals := 89 } : Room) (va_Pc [.ref (w.2.2.1 144)] (mc_B mc_k 152 w I R)) (mc_Q (some (.int rz)) (mc_B mc_k 152 w Iz Rz) (mc_A 152 w)) 0 0 (mc_A 152 w) := by
  refine Met.ofW (cc := cX8_send) (maxL := 1) (ret := (some .int)) (by decide) rfl ?_
  intro p e s m args below meth c s₁ B hml hv
  obtain ⟨rfl, hP, K⟩ := hv
  have hown : s.vm.findClass RX8 = some m.cls := findClass_of_methodNamed B.named
  have C : CallFix p m c cX8_send 1 s _ mc_big RX8 := ⟨B.exec, B.bytes, hml, hown, fun w hw => atoms_spec B.pre w (List.mem_cons_of_mem _ hw)⟩
  have hx := C.1
  have hb := C.2.1
  have hC := And.intro C.1 C.2.1
  have hr := B.returns
  have hlk := B.notSynchronized
  have hS : va_S (mc_A 152 w) s.heap s.heap [] := va_S.rf
  have hl := lv_entry ([.ref (w.2.2.1 144)]) (n := 1) (Nat.le_of_ble_eq_true rfl)
  rw [lg_entry_eq]
  generalize (lg_sl ([.ref (w.2.2.1 144)]) ++ List.replicate (1 - (lg_sl ([.ref (w.2.2.1 144)])).length) Slot.unset).toArray = ls at hl ⊢
  have hl : lv_has ls 1 [(0, .ref (w.2.2.1 144))] := hl
  unfold mi_X8_send at h
  refine lv_aload_n hx hb dX8_send_0 rfl (lv_at hl 0 rfl) ?_
  refine mf_X8_16 C K hP kf_144 dX8_send_1 ?_
  refine lv_aload_n hx hb dX8_send_4 rfl (lv_at hl 0 rfl) ?_
  refine mf_X8_10 C K hP kf_144 dX8_send_5 ?_
  obtain ⟨I1, e2, h⟩ := mc_ob_e h
  refine mg_Vv (As := [.ref (w.2.2.1 0)]) (rest := []) (ct_X5_copyFrom l (w := w) (I := I) (R := R) kf_18 kf_0 e2) C K hP hS hl.1 kf_18 (by decide) rfl rfl ml_X8_46 wy_X5_copyFrom wd_X5_copyFrom rfl rfl rfl ⟨Nat.le_of_ble_eq_true rfl, Nat.le_of_ble_eq_true rfl⟩ (Nat.le_of_ble_eq_true rfl) ⟨Nat.zero_le _, Nat.zero_le _⟩ dX8_send_8 (fun H locs hP hS => ?_)
  refine lv_aload_n hx hb dX8_send_11 rfl (lv_at hl 0 rfl) ?_
  refine lv_aload_n hx hb dX8_send_12 rfl (lv_at hl 0 rfl) ?_
  refine mf_X8_10 C K hP kf_144 dX8_send_13 ?_
  obtain ⟨I3, r4, e5, h⟩ := mc_ob2_e h
  refine mg_Vi (As := []) (rest := [.ref (w.2.2.1 144)]) (ct_X5_letGo l (w := w) (I := I1) (R := R) kf_0 e5) C K hP hS hl.1 kf_0 (by decide) rfl rfl ml_X8_70 wy_X5_letGo wd_X5_letGo rfl rfl rfl ⟨Nat.le_of_ble_eq_true rfl, Nat.le_of_ble_eq_true rfl⟩ (Nat.le_of_ble_eq_true rfl) ⟨Nat.zero_le _, Nat.zero_le _⟩ dX8_send_16 (fun H locs hP hS => ?_)
  obtain ⟨I6, R7, r8, e9, h⟩ := mc_ob3_e h
  refine mg_Vi (As := [.int r4]) (rest := []) (ct_X8_recorded l (w := w) (I := I3) (R := R) e9) C K hP hS hl.1 kf_144 (by decide) rfl rfl ml_X8_54 wy_X8_recorded wd_X8_recorded rfl rfl rfl ⟨Nat.le_of_ble_eq_true rfl, Nat.le_of_ble_eq_true rfl⟩ (Nat.le_of_ble_eq_true rfl) ⟨Nat.zero_le _, Nat.zero_le _⟩ dX8_send_19 (fun H locs hP hS => ?_)
  cases h
  exact mt_i hC hr hlk K hP hS dX8_send_22
set_option maxHeartbeats 4000000 in
set_option maxRecDepth 100000 in
theorem ct_X8_pass (l : Launch) {w : mc_w} {I : Nat → Nat → Int32} {R : Nat → Nat → Option Nat} {F : Nat} {v1 : Int32} {Iz : Nat → Nat → Int32} {Rz : Nat → Nat → Option Nat} {rz : Int32} (h : mi_X8_pass F I R v1 = some (Iz, Rz, rz)) : Met l yX8_pass (Cond.code yX8_pass cX8_pass 2 (some .int) :: mc_big) ({ frames := 6, cells := 0, slots := 0, locals := 135 } : Room) (va_Pc [.ref (w.2.2.1 144), .int v1] (mc_B mc_k 152 w I R)) (mc_Q (some (.int rz)) (mc_B mc_k 152 w Iz Rz) (mc_A 152 w)) 0 0 (mc_A 152 w) := by
  refine Met.ofW (cc := cX8_pass) (maxL := 2) (ret := (some .int)) (by decide) rfl ?_
  intro p e s m args below meth c s₁ B hml hv
  obtain ⟨rfl, hP, K⟩ := hv
  have hown : s.vm.findClass RX8 = some m.cls := findClass_of_methodNamed B.named
  have C : CallFix p m c cX8_pass 2 s _ mc_big RX8 := ⟨B.exec, B.bytes, hml, hown, fun w hw => atoms_spec B.pre w (List.mem_cons_of_mem _ hw)⟩
  have hx := C.1
  have hb := C.2.1
  have hC := And.intro C.1 C.2.1
  have hr := B.returns
  have hlk := B.notSynchronized
  have hS : va_S (mc_A 152 w) s.heap s.heap [] := va_S.rf
  have hl := lv_entry ([.ref (w.2.2.1 144), .int v1]) (n := 2) (Nat.le_of_ble_eq_true rfl)
  rw [lg_entry_eq]
  generalize (lg_sl ([.ref (w.2.2.1 144), .int v1]) ++ List.replicate (2 - (lg_sl ([.ref (w.2.2.1 144), .int v1])).length) Slot.unset).toArray = ls at hl ⊢
  have hl : lv_has ls 2 [(0, .ref (w.2.2.1 144)), (1, .int v1)] := hl
  unfold mi_X8_pass at h
  refine lv_aload_n hx hb dX8_pass_0 rfl (lv_at hl 0 rfl) ?_
  refine mf_X8_16 C K hP kf_144 dX8_pass_1 ?_
  refine lv_aload_n hx hb dX8_pass_4 rfl (lv_at hl 0 rfl) ?_
  refine mf_X8_10 C K hP kf_144 dX8_pass_5 ?_
  obtain ⟨I1, e2, h⟩ := mc_ob_e h
  refine mg_Vv (As := [.ref (w.2.2.1 0)]) (rest := []) (ct_X5_copyFrom l (w := w) (I := I) (R := R) kf_18 kf_0 e2) C K hP hS hl.1 kf_18 (by decide) rfl rfl ml_X8_46 wy_X5_copyFrom wd_X5_copyFrom rfl rfl rfl ⟨Nat.le_of_ble_eq_true rfl, Nat.le_of_ble_eq_true rfl⟩ (Nat.le_of_ble_eq_true rfl) ⟨Nat.zero_le _, Nat.zero_le _⟩ dX8_pass_8 (fun H locs hP hS => ?_)
  refine lv_aload_n hx hb dX8_pass_11 rfl (lv_at hl 0 rfl) ?_
  refine lv_aload_n hx hb dX8_pass_12 rfl (lv_at hl 0 rfl) ?_
  refine mf_X8_10 C K hP kf_144 dX8_pass_13 ?_
  refine lv_iload_n hx hb dX8_pass_16 rfl (lv_at hl 1 rfl) ?_
  obtain ⟨I3, r4, e5, h⟩ := mc_ob2_e h
  refine mg_Vi (As := [.int v1]) (rest := [.ref (w.2.2.1 144)]) (ct_X5_letPass l (w := w) (I := I1) (R := R) kf_0 e5) C K hP hS hl.1 kf_0 (by decide) rfl rfl ml_X8_74 wy_X5_letPass wd_X5_letPass rfl rfl rfl ⟨Nat.le_of_ble_eq_true rfl, Nat.le_of_ble_eq_true rfl⟩ (Nat.le_of_ble_eq_true rfl) ⟨Nat.zero_le _, Nat.zero_le _⟩ dX8_pass_17 (fun H locs hP hS => ?_)
  obtain ⟨I6, R7, r8, e9, h⟩ := mc_ob3_e h
  refine mg_Vi (As := [.int r4]) (rest := []) (ct_X8_recorded l (w := w) (I := I3) (R := R) e9) C K hP hS hl.1 kf_144 (by decide) rfl rfl ml_X8_54 wy_X8_recorded wd_X8_recorded rfl rfl rfl ⟨Nat.le_of_ble_eq_true rfl, Nat.le_of_ble_eq_true rfl⟩ (Nat.le_of_ble_eq_true rfl) ⟨Nat.zero_le _, Nat.zero_le _⟩ dX8_pass_20 (fun H locs hP hS => ?_)
  cases h
  exact mt_i hC hr hlk K hP hS dX8_pass_23
set_option maxHeartbeats 4000000 in
set_option maxRecDepth 100000 in
theorem ct_X8_setWater (l : Launch) {w : mc_w} {I : Nat → Nat → Int32} {R : Nat → Nat → Option Nat} {F : Nat} {v1 : Int32} {v2 : Int32} {v3 : Int32} {Iz : Nat → Nat → Int32} {Rz : Nat → Nat → Option Nat} {rz : Int32} (h : mi_X8_setWater F I R v1 v2 v3 = some (Iz, Rz, rz)) : Met l yX8_setWater (Cond.code yX8_setWater cX8_setWater 4 (some .int) :: mc_big) ({ frames := 4, cells := 0, slots := 0, locals := 89 } : Room) (va_Pc [.ref (w.2.2.1 144), .int v1, .int v2, .int v3] (mc_B mc_k 152 w I R)) (mc_Q (some (.int rz)) (mc_B mc_k 152 w Iz Rz) (mc_A 152 w)) 0 0 (mc_A 152 w) := by
  refine Met.ofW (cc := cX8_setWater) (maxL := 4) (ret := (some .int)) (by decide) rfl ?_
  intro p e s m args below meth c s₁ B hml hv
  obtain ⟨rfl, hP, K⟩ := hv
  have hown : s.vm.findClass RX8 = some m.cls := findClass_of_methodNamed B.named
  have C : CallFix p m c cX8_setWater 4 s _ mc_big RX8 := ⟨B.exec, B.bytes, hml, hown, fun w hw => atoms_spec B.pre w (List.mem_cons_of_mem _ hw)⟩
  have hx := C.1
  have hb := C.2.1
  have hC := And.intro C.1 C.2.1
  have hr := B.returns
  have hlk := B.notSynchronized
  have hS : va_S (mc_A 152 w) s.heap s.heap [] := va_S.rf
  have hl := lv_entry ([.ref (w.2.2.1 144), .int v1, .int v2, .int v3]) (n := 4) (Nat.le_of_ble_eq_true rfl)
  rw [lg_entry_eq]
  generalize (lg_sl ([.ref (w.2.2.1 144), .int v1, .int v2, .int v3]) ++ List.replicate (4 - (lg_sl ([.ref (w.2.2.1 144), .int v1, .int v2, .int v3])).length) Slot.unset).toArray = ls at hl ⊢
  have hl : lv_has ls 4 [(0, .ref (w.2.2.1 144)), (1, .int v1), (2, .int v2), (3, .int v3)] := hl
  unfold mi_X8_setWater at h
  refine lv_aload_n hx hb dX8_setWater_0 rfl (lv_at hl 0 rfl) ?_
  refine mf_X8_16 C K hP kf_144 dX8_setWater_1 ?_
  refine lv_aload_n hx hb dX8_setWater_4 rfl (lv_at hl 0 rfl) ?_
  refine mf_X8_10 C K hP kf_144 dX8_setWater_5 ?_
  obtain ⟨I1, e2, h⟩ := mc_ob_e h
  refine mg_Vv (As := [.ref (w.2.2.1 0)]) (rest := []) (ct_X5_copyFrom l (w := w) (I := I) (R := R) kf_18 kf_0 e2) C K hP hS hl.1 kf_18 (by decide) rfl rfl ml_X8_46 wy_X5_copyFrom wd_X5_copyFrom rfl rfl rfl ⟨Nat.le_of_ble_eq_true rfl, Nat.le_of_ble_eq_true rfl⟩ (Nat.le_of_ble_eq_true rfl) ⟨Nat.zero_le _, Nat.zero_le _⟩ dX8_setWater_8 (fun H locs hP hS => ?_)
  refine lv_aload_n hx hb dX8_setWater_11 rfl (lv_at hl 0 rfl) ?_
  refine lv_aload_n hx hb dX8_setWater_12 rfl (lv_at hl 0 rfl) ?_
  refine mf_X8_10 C K hP kf_144 dX8_setWater_13 ?_
  refine mf_X8_77 C K hP kf_0 dX8_setWater_16 ?_
  refine lv_iload_n hx hb dX8_setWater_19 rfl (lv_at hl 1 rfl) ?_
  refine lv_iload_n hx hb dX8_setWater_20 rfl (lv_at hl 2 rfl) ?_
  refine lv_iload_n hx hb dX8_setWater_21 rfl (lv_at hl 3 rfl) ?_
  obtain ⟨I3, r4, e5, h⟩ := mc_ob2_e h
  refine mg_Vi (As := [.int v1, .int v2, .int v3]) (rest := [.ref (w.2.2.1 144)]) (ct_X7_change l (w := w) (I := I1) (R := R) (kk_5_2 kf_0) e5) C K hP hS hl.1 (kk_5_2 kf_0) (by decide) rfl rfl ml_X8_81 wy_X7_change wd_X7_change rfl rfl rfl ⟨Nat.le_of_ble_eq_true rfl, Nat.le_of_ble_eq_true rfl⟩ (Nat.le_of_ble_eq_true rfl) ⟨Nat.zero_le _, Nat.zero_le _⟩ dX8_setWater_22 (fun H locs hP hS => ?_)
  obtain ⟨I6, R7, r8, e9, h⟩ := mc_ob3_e h
  refine mg_Vi (As := [.int r4]) (rest := []) (ct_X8_recorded l (w := w) (I := I3) (R := R) e9) C K hP hS hl.1 kf_144 (by decide) rfl rfl ml_X8_54 wy_X8_recorded wd_X8_recorded rfl rfl rfl ⟨Nat.le_of_ble_eq_true rfl, Nat.le_of_ble_eq_true rfl⟩ (Nat.le_of_ble_eq_true rfl) ⟨Nat.zero_le _, Nat.zero_le _⟩ dX8_setWater_25 (fun H locs hP hS => ?_)
  cases h
  exact mt_i hC hr hlk K hP hS dX8_setWater_28
set_option maxHeartbeats 4000000 in
set_option maxRecDepth 100000 in
theorem ct_X8_set (l : Launch) {w : mc_w} {I : Nat → Nat → Int32} {R : Nat → Nat → Option Nat} {F : Nat} {v1 : Int32} {v2 : Int32} {Iz : Nat → Nat → Int32} {Rz : Nat → Nat → Option Nat} {rz : Int32} (h : mi_X8_set F I R v1 v2 = some (Iz, Rz, rz)) : Met l yX8_set (Cond.code yX8_set cX8_set 3 (some .int) :: mc_big) ({ frames := 4, cells := 0, slots := 0, locals := 89 } : Room) (va_Pc [.ref (w.2.2.1 144), .int v1, .int v2] (mc_B mc_k 152 w I R)) (mc_Q (some (.int rz)) (mc_B mc_k 152 w Iz Rz) (mc_A 152 w)) 0 0 (mc_A 152 w) := by
  refine Met.ofW (cc := cX8_set) (maxL := 3) (ret := (some .int)) (by decide) rfl ?_
  intro p e s m args below meth c s₁ B hml hv
  obtain ⟨rfl, hP, K⟩ := hv
  have hown : s.vm.findClass RX8 = some m.cls := findClass_of_methodNamed B.named
  have C : CallFix p m c cX8_set 3 s _ mc_big RX8 := ⟨B.exec, B.bytes, hml, hown, fun w hw => atoms_spec B.pre w (List.mem_cons_of_mem _ hw)⟩
  have hx := C.1
  have hb := C.2.1
  have hC := And.intro C.1 C.2.1
  have hr := B.returns
  have hlk := B.notSynchronized
  have hS : va_S (mc_A 152 w) s.heap s.heap [] := va_S.rf
  have hl := lv_entry ([.ref (w.2.2.1 144), .int v1, .int v2]) (n := 3) (Nat.le_of_ble_eq_true rfl)
  rw [lg_entry_eq]
  generalize (lg_sl ([.ref (w.2.2.1 144), .int v1, .int v2]) ++ List.replicate (3 - (lg_sl ([.ref (w.2.2.1 144), .int v1, .int v2])).length) Slot.unset).toArray = ls at hl ⊢
  have hl : lv_has ls 3 [(0, .ref (w.2.2.1 144)), (1, .int v1), (2, .int v2)] := hl
  unfold mi_X8_set at h
  refine lv_aload_n hx hb dX8_set_0 rfl (lv_at hl 0 rfl) ?_
  refine mf_X8_16 C K hP kf_144 dX8_set_1 ?_
  refine lv_aload_n hx hb dX8_set_4 rfl (lv_at hl 0 rfl) ?_
  refine mf_X8_10 C K hP kf_144 dX8_set_5 ?_
  obtain ⟨I1, e2, h⟩ := mc_ob_e h
  refine mg_Vv (As := [.ref (w.2.2.1 0)]) (rest := []) (ct_X5_copyFrom l (w := w) (I := I) (R := R) kf_18 kf_0 e2) C K hP hS hl.1 kf_18 (by decide) rfl rfl ml_X8_46 wy_X5_copyFrom wd_X5_copyFrom rfl rfl rfl ⟨Nat.le_of_ble_eq_true rfl, Nat.le_of_ble_eq_true rfl⟩ (Nat.le_of_ble_eq_true rfl) ⟨Nat.zero_le _, Nat.zero_le _⟩ dX8_set_8 (fun H locs hP hS => ?_)
  refine lv_aload_n hx hb dX8_set_11 rfl (lv_at hl 0 rfl) ?_
  refine lv_aload_n hx hb dX8_set_12 rfl (lv_at hl 0 rfl) ?_
  refine mf_X8_10 C K hP kf_144 dX8_set_13 ?_
  refine lv_iload_n hx hb dX8_set_16 rfl (lv_at hl 1 rfl) ?_
  refine lv_iload_n hx hb dX8_set_17 rfl (lv_at hl 2 rfl) ?_
  obtain ⟨I3, r4, e5, h⟩ := mc_bn2_e h
  refine mg_Vi (As := [.int v1, .int v2]) (rest := [.ref (w.2.2.1 144)]) (ct_X5_changeSetting l (w := w) (I := I1) (R := R) kf_0 e5) C K hP hS hl.1 kf_0 (by decide) rfl rfl ml_X8_87 wy_X5_changeSetting wd_X5_changeSetting rfl rfl rfl ⟨Nat.le_of_ble_eq_true rfl, Nat.le_of_ble_eq_true rfl⟩ (Nat.le_of_ble_eq_true rfl) ⟨Nat.zero_le _, Nat.zero_le _⟩ dX8_set_18 (fun H locs hP hS => ?_)
  obtain ⟨I6, R7, r8, e9, h⟩ := mc_ob3_e h
  refine mg_Vi (As := [.int r4]) (rest := []) (ct_X8_recorded l (w := w) (I := I3) (R := R) e9) C K hP hS hl.1 kf_144 (by decide) rfl rfl ml_X8_54 wy_X8_recorded wd_X8_recorded rfl rfl rfl ⟨Nat.le_of_ble_eq_true rfl, Nat.le_of_ble_eq_true rfl⟩ (Nat.le_of_ble_eq_true rfl) ⟨Nat.zero_le _, Nat.zero_le _⟩ dX8_set_21 (fun H locs hP hS => ?_)
  cases h
  exact mt_i hC hr hlk K hP hS dX8_set_24
set_option maxHeartbeats 4000000 in
set_option maxRecDepth 100000 in
theorem ct_X8_undo (l : Launch) {w : mc_w} {I : Nat → Nat → Int32} {R : Nat → Nat → Option Nat} {F : Nat} {Iz : Nat → Nat → Int32} {rz : Int32} (h : mi_X8_undo F I R = some (Iz, rz)) : Met l yX8_undo (Cond.code yX8_undo cX8_undo 1 (some .int) :: mc_big) ({ frames := 3, cells := 0, slots := 0, locals := 69 } : Room) (va_Pc [.ref (w.2.2.1 144)] (mc_B mc_k 152 w I R)) (mc_Q (some (.int rz)) (mc_B mc_k 152 w Iz R) (mc_A 152 w)) 0 0 (mc_A 152 w) := by
  refine Met.ofW (cc := cX8_undo) (maxL := 1) (ret := (some .int)) (by decide) rfl ?_
  intro p e s m args below meth c s₁ B hml hv
  obtain ⟨rfl, hP, K⟩ := hv
  have hown : s.vm.findClass RX8 = some m.cls := findClass_of_methodNamed B.named
  have C : CallFix p m c cX8_undo 1 s _ mc_big RX8 := ⟨B.exec, B.bytes, hml, hown, fun w hw => atoms_spec B.pre w (List.mem_cons_of_mem _ hw)⟩
  have hx := C.1
  have hb := C.2.1
  have hC := And.intro C.1 C.2.1
  have hr := B.returns
  have hlk := B.notSynchronized
  have hS : va_S (mc_A 152 w) s.heap s.heap [] := va_S.rf
  have hl := lv_entry ([.ref (w.2.2.1 144)]) (n := 1) (Nat.le_of_ble_eq_true rfl)
  rw [lg_entry_eq]
  generalize (lg_sl ([.ref (w.2.2.1 144)]) ++ List.replicate (1 - (lg_sl ([.ref (w.2.2.1 144)])).length) Slot.unset).toArray = ls at hl ⊢
  have hl : lv_has ls 1 [(0, .ref (w.2.2.1 144))] := hl
  unfold mi_X8_undo at h
  refine lv_aload_n hx hb dX8_undo_0 rfl (lv_at hl 0 rfl) ?_
  refine mf_X8_28 C K hP kf_144 dX8_undo_1 ?_
  refine lv_aload_n hx hb dX8_undo_4 rfl (lv_at hl 0 rfl) ?_
  refine mf_X8_10 C K hP kf_144 dX8_undo_5 ?_
  obtain ⟨I1, r2, e3, h⟩ := mc_ob2_e h
  refine mg_Vz (As := [.ref (w.2.2.1 0)]) (rest := []) (ct_X3_takeLatest l (w := w) (I := I) (R := R) kf_0 e3) C K hP hS hl.1 kf_145 (by decide) rfl rfl ml_X8_138 wy_X3_takeLatest wd_X3_takeLatest rfl rfl rfl ⟨Nat.le_of_ble_eq_true rfl, Nat.le_of_ble_eq_true rfl⟩ (Nat.le_of_ble_eq_true rfl) ⟨Nat.zero_le _, Nat.zero_le _⟩ dX8_undo_8 (fun H locs hP z4 hS => ?_)
  refine lv_if_eq (tgt := 24) hx hb dX8_undo_11 (by decide) (fun c5 => ?_) (fun c5 => ?_)
  · replace h := mc_it h c5
    refine lv_sipush (v := (-1005)) hx hb dX8_undo_24 (by decide) ?_
    cases h
    exact mt_i hC hr hlk K hP hS dX8_undo_27
  · replace h := mc_ie h c5
    refine lv_aload_n hx hb dX8_undo_14 rfl (lv_at hl 0 rfl) ?_
    refine mf_X8_28 C K hP kf_144 dX8_undo_15 ?_
    refine mf_X8_142 C K hP kf_145 dX8_undo_18 ?_
    refine lv_goto (tgt := 27) hx hb dX8_undo_21 (by decide) ?_
    cases h
    exact mt_i hC hr hlk K hP hS dX8_undo_27
set_option maxHeartbeats 4000000 in
set_option maxRecDepth 100000 in
theorem ct_X8_tellOfShut (l : Launch) {w : mc_w} {I : Nat → Nat → Int32} {R : Nat → Nat → Option Nat} {v1 : Nat} {v2 : Int32} (kv1 : mc_k v1 = 0) {rz : Int32} (h : mi_X8_tellOfShut I v1 v2 = rz) : Met l yX8_tellOfShut (Cond.code yX8_tellOfShut cX8_tellOfShut 3 (some .int) :: mc_big) ({ frames := 3, cells := 0, slots := 0, locals := 62 } : Room) (va_Pc [.ref (w.2.2.1 144), .ref (w.2.2.1 v1), .int v2] (mc_B mc_k 152 w I R)) (mc_Q (some (.int rz)) (mc_B mc_k 152 w I R) (mc_A 152 w)) 0 0 (mc_A 152 w) := by
  refine Met.ofW (cc := cX8_tellOfShut) (maxL := 3) (ret := (some .int)) (by decide) rfl ?_
  intro p e s m args below meth c s₁ B hml hv
  obtain ⟨rfl, hP, K⟩ := hv
  have hown : s.vm.findClass RX8 = some m.cls := findClass_of_methodNamed B.named
  have C : CallFix p m c cX8_tellOfShut 3 s _ mc_big RX8 := ⟨B.exec, B.bytes, hml, hown, fun w hw => atoms_spec B.pre w (List.mem_cons_of_mem _ hw)⟩
  have hx := C.1
  have hb := C.2.1
  have hC := And.intro C.1 C.2.1
  have hr := B.returns
  have hlk := B.notSynchronized
  have hS : va_S (mc_A 152 w) s.heap s.heap [] := va_S.rf
  have hl := lv_entry ([.ref (w.2.2.1 144), .ref (w.2.2.1 v1), .int v2]) (n := 3) (Nat.le_of_ble_eq_true rfl)
  rw [lg_entry_eq]
  generalize (lg_sl ([.ref (w.2.2.1 144), .ref (w.2.2.1 v1), .int v2]) ++ List.replicate (3 - (lg_sl ([.ref (w.2.2.1 144), .ref (w.2.2.1 v1), .int v2])).length) Slot.unset).toArray = ls at hl ⊢
  have hl : lv_has ls 3 [(0, .ref (w.2.2.1 144)), (1, .ref (w.2.2.1 v1)), (2, .int v2)] := hl
  unfold mi_X8_tellOfShut at h
  refine lv_aload_n hx hb dX8_tellOfShut_0 rfl (lv_at hl 1 rfl) ?_
  refine mf_X8_201 C K hP kv1 dX8_tellOfShut_1 ?_
  refine lv_if_ne (tgt := 11) hx hb dX8_tellOfShut_4 (by decide) (fun c1 => ?_) (fun c1 => ?_)
  · replace h := mc_ie h c1
    refine lv_iload_n hx hb dX8_tellOfShut_11 rfl (lv_at hl 2 rfl) ?_
    by_cases c2 : v2 = 6
    · replace h := mc_it h c2
      refine lv_tableIn (off := 40) (tgt := 52) hx hb dX8_tellOfShut_12 (by rw [c2]; decide) (by rw [c2]; decide) (by rw [c2]; decide) (by decide) ?_
      refine lv_aload_n hx hb dX8_tellOfShut_52 rfl (lv_at hl 1 rfl) ?_
      refine mf_X8_258 C K hP kv1 dX8_tellOfShut_53 ?_
      cases h
      exact mt_i hC hr hlk K hP hS dX8_tellOfShut_56
    replace h := mc_ie h c2
    by_cases c3 : v2 = 7
    · replace h := mc_it h c3
      refine lv_tableIn (off := 45) (tgt := 57) hx hb dX8_tellOfShut_12 (by rw [c3]; decide) (by rw [c3]; decide) (by rw [c3]; decide) (by decide) ?_
      refine lv_aload_n hx hb dX8_tellOfShut_57 rfl (lv_at hl 1 rfl) ?_
      refine mf_X8_261 C K hP kv1 dX8_tellOfShut_58 ?_
      cases h
      exact mt_i hC hr hlk K hP hS dX8_tellOfShut_61
    replace h := mc_ie h c3
    by_cases c4 : v2 = 8
    · replace h := mc_it h c4
      refine lv_tableIn (off := 50) (tgt := 62) hx hb dX8_tellOfShut_12 (by rw [c4]; decide) (by rw [c4]; decide) (by rw [c4]; decide) (by decide) ?_
      refine lv_aload_n hx hb dX8_tellOfShut_62 rfl (lv_at hl 1 rfl) ?_
      refine mf_X8_264 C K hP kv1 dX8_tellOfShut_63 ?_
      cases h
      exact mt_i hC hr hlk K hP hS dX8_tellOfShut_66
    replace h := mc_ie h c4
    by_cases c5 : v2 = 9
    · replace h := mc_it h c5
      refine lv_tableIn (off := 55) (tgt := 67) hx hb dX8_tellOfShut_12 (by rw [c5]; decide) (by rw [c5]; decide) (by rw [c5]; decide) (by decide) ?_
      refine lv_aload_n hx hb dX8_tellOfShut_67 rfl (lv_at hl 1 rfl) ?_
      refine mf_X8_267 C K hP kv1 dX8_tellOfShut_68 ?_
      cases h
      exact mt_i hC hr hlk K hP hS dX8_tellOfShut_71
    replace h := mc_ie h c5
    by_cases c6 : v2 = 10
    · replace h := mc_it h c6
      refine lv_tableIn (off := 60) (tgt := 72) hx hb dX8_tellOfShut_12 (by rw [c6]; decide) (by rw [c6]; decide) (by rw [c6]; decide) (by decide) ?_
      refine lv_aload_n hx hb dX8_tellOfShut_72 rfl (lv_at hl 1 rfl) ?_
      refine mg_Vi (As := []) (rest := []) (ct_X0_depthByPair l (w := w) (I := I) (R := R) kv1 rfl) C K hP hS hl.1 kv1 (by decide) rfl rfl ml_X8_270 wy_X0_depthByPair wd_X0_depthByPair rfl rfl rfl ⟨Nat.le_of_ble_eq_true rfl, Nat.le_of_ble_eq_true rfl⟩ (Nat.le_of_ble_eq_true rfl) ⟨Nat.zero_le _, Nat.zero_le _⟩ dX8_tellOfShut_73 (fun H locs hP hS => ?_)
      cases h
      exact mt_i hC hr hlk K hP hS dX8_tellOfShut_76
    replace h := mc_ie h c6
    by_cases c8 : v2 = 11
    · replace h := mc_it h c8
      refine lv_tableIn (off := 65) (tgt := 77) hx hb dX8_tellOfShut_12 (by rw [c8]; decide) (by rw [c8]; decide) (by rw [c8]; decide) (by decide) ?_
      refine lv_aload_n hx hb dX8_tellOfShut_77 rfl (lv_at hl 1 rfl) ?_
      refine mf_X8_273 C K hP kv1 dX8_tellOfShut_78 ?_
      cases h
      exact mt_i hC hr hlk K hP hS dX8_tellOfShut_81
    replace h := mc_ie h c8
    refine lv_tableOut (tgt := 82) hx hb dX8_tellOfShut_12 (mc_sw (lo := 6) (hi := 11) (fun v h1 h2 => by rcases (show v = 6 ∨ v = 7 ∨ v = 8 ∨ v = 9 ∨ v = 10 ∨ v = 11 by omega) with rfl | rfl | rfl | rfl | rfl | rfl <;> first | exact ⟨6, by decide, c2⟩ | exact ⟨7, by decide, c3⟩ | exact ⟨8, by decide, c4⟩ | exact ⟨9, by decide, c5⟩ | exact ⟨10, by decide, c6⟩ | exact ⟨11, by decide, c8⟩)) (by decide) ?_
    refine lv_aload_n hx hb dX8_tellOfShut_82 rfl (lv_at hl 0 rfl) ?_
    refine mf_X8_10 C K hP kf_144 dX8_tellOfShut_83 ?_
    refine lv_aload_n hx hb dX8_tellOfShut_86 rfl (lv_at hl 1 rfl) ?_
    refine mg_Vz (As := [.ref (w.2.2.1 v1)]) (rest := []) (ct_X5_isDoubtful l (w := w) (I := I) (R := R) kf_0 kv1 rfl) C K hP hS hl.1 kf_0 (by decide) rfl rfl ml_X8_276 wy_X5_isDoubtful wd_X5_isDoubtful rfl rfl rfl ⟨Nat.le_of_ble_eq_true rfl, Nat.le_of_ble_eq_true rfl⟩ (Nat.le_of_ble_eq_true rfl) ⟨Nat.zero_le _, Nat.zero_le _⟩ dX8_tellOfShut_87 (fun H locs hP z10 hS => ?_)
    refine lv_if_eq (tgt := 97) hx hb dX8_tellOfShut_90 (by decide) (fun c11 => ?_) (fun c11 => ?_)
    · replace h := mc_it h c11
      refine lv_iconst (v := 0) hx hb dX8_tellOfShut_97 (by decide) ?_
      cases h
      exact mt_i hC hr hlk K hP hS dX8_tellOfShut_98
    · replace h := mc_ie h c11
      refine lv_iconst (v := 1) hx hb dX8_tellOfShut_93 (by decide) ?_
      refine lv_goto (tgt := 98) hx hb dX8_tellOfShut_94 (by decide) ?_
      cases h
      exact mt_i hC hr hlk K hP hS dX8_tellOfShut_98
  · replace h := mc_it h c1
    refine lv_sipush (v := (-1005)) hx hb dX8_tellOfShut_7 (by decide) ?_
    cases h
    exact mt_i hC hr hlk K hP hS dX8_tellOfShut_10
set_option maxHeartbeats 4000000 in
set_option maxRecDepth 100000 in
theorem ct_X8_tellOfAny (l : Launch) {w : mc_w} {I : Nat → Nat → Int32} {R : Nat → Nat → Option Nat} {v1 : Nat} {v2 : Int32} (kv1 : mc_k v1 = 0) {rz : Int32} (h : mi_X8_tellOfAny I v1 v2 = some rz) : Met l yX8_tellOfAny (Cond.code yX8_tellOfAny cX8_tellOfAny 3 (some .int) :: mc_big) ({ frames := 3, cells := 0, slots := 0, locals := 63 } : Room) (va_Pc [.ref (w.2.2.1 144), .ref (w.2.2.1 v1), .int v2] (mc_B mc_k 152 w I R)) (mc_Q (some (.int rz)) (mc_B mc_k 152 w I R) (mc_A 152 w)) 0 0 (mc_A 152 w) := by
  refine Met.ofW (cc := cX8_tellOfAny) (maxL := 3) (ret := (some .int)) (by decide) rfl ?_
  intro p e s m args below meth c s₁ B hml hv
  obtain ⟨rfl, hP, K⟩ := hv
  have hown : s.vm.findClass RX8 = some m.cls := findClass_of_methodNamed B.named
  have C : CallFix p m c cX8_tellOfAny 3 s _ mc_big RX8 := ⟨B.exec, B.bytes, hml, hown, fun w hw => atoms_spec B.pre w (List.mem_cons_of_mem _ hw)⟩
  have hx := C.1
  have hb := C.2.1
  have hC := And.intro C.1 C.2.1
  have hr := B.returns
  have hlk := B.notSynchronized
  have hS : va_S (mc_A 152 w) s.heap s.heap [] := va_S.rf
  have hl := lv_entry ([.ref (w.2.2.1 144), .ref (w.2.2.1 v1), .int v2]) (n := 3) (Nat.le_of_ble_eq_true rfl)
  rw [lg_entry_eq]
  generalize (lg_sl ([.ref (w.2.2.1 144), .ref (w.2.2.1 v1), .int v2]) ++ List.replicate (3 - (lg_sl ([.ref (w.2.2.1 144), .ref (w.2.2.1 v1), .int v2])).length) Slot.unset).toArray = ls at hl ⊢
  have hl : lv_has ls 3 [(0, .ref (w.2.2.1 144)), (1, .ref (w.2.2.1 v1)), (2, .int v2)] := hl
  unfold mi_X8_tellOfAny at h
  refine lv_iload_n hx hb dX8_tellOfAny_0 rfl (lv_at hl 2 rfl) ?_
  by_cases c1 : v2 = 0
  · replace h := mc_it h c1
    refine lv_tableIn (off := 39) (tgt := 40) hx hb dX8_tellOfAny_1 (by rw [c1]; decide) (by rw [c1]; decide) (by rw [c1]; decide) (by decide) ?_
    refine lv_aload_n hx hb dX8_tellOfAny_40 rfl (lv_at hl 1 rfl) ?_
    refine mf_X8_206 C K hP kv1 dX8_tellOfAny_41 ?_
    cases h
    exact mt_i hC hr hlk K hP hS dX8_tellOfAny_44
  replace h := mc_ie h c1
  by_cases c2 : v2 = 1
  · replace h := mc_it h c2
    refine lv_tableIn (off := 44) (tgt := 45) hx hb dX8_tellOfAny_1 (by rw [c2]; decide) (by rw [c2]; decide) (by rw [c2]; decide) (by decide) ?_
    refine lv_aload_n hx hb dX8_tellOfAny_45 rfl (lv_at hl 0 rfl) ?_
    refine mf_X8_10 C K hP kf_144 dX8_tellOfAny_46 ?_
    refine mf_X8_174 C K hP kf_0 dX8_tellOfAny_49 ?_
    refine lv_aload_n hx hb dX8_tellOfAny_52 rfl (lv_at hl 1 rfl) ?_
    refine mf_X8_206 C K hP kv1 dX8_tellOfAny_53 ?_
    refine mg_Vi (As := [.int (I v1 0)]) (rest := []) (ct_X1_metreOf l (w := w) (I := I) (R := R) (kk_5_1 kf_0) rfl) C K hP hS hl.1 (kk_5_1 kf_0) (by decide) rfl rfl ml_X8_246 wy_X1_metreOf wd_X1_metreOf rfl rfl rfl ⟨Nat.le_of_ble_eq_true rfl, Nat.le_of_ble_eq_true rfl⟩ (Nat.le_of_ble_eq_true rfl) ⟨Nat.zero_le _, Nat.zero_le _⟩ dX8_tellOfAny_56 (fun H locs hP hS => ?_)
    cases h
    exact mt_i hC hr hlk K hP hS dX8_tellOfAny_59
  replace h := mc_ie h c2
  by_cases c4 : v2 = 2
  · replace h := mc_it h c4
    refine lv_tableIn (off := 59) (tgt := 60) hx hb dX8_tellOfAny_1 (by rw [c4]; decide) (by rw [c4]; decide) (by rw [c4]; decide) (by decide) ?_
    refine lv_aload_n hx hb dX8_tellOfAny_60 rfl (lv_at hl 0 rfl) ?_
    refine mf_X8_10 C K hP kf_144 dX8_tellOfAny_61 ?_
    refine mf_X8_174 C K hP kf_0 dX8_tellOfAny_64 ?_
    refine lv_aload_n hx hb dX8_tellOfAny_67 rfl (lv_at hl 1 rfl) ?_
    refine mf_X8_206 C K hP kv1 dX8_tellOfAny_68 ?_
    obtain ⟨r5, e6, h⟩ := mc_ob_e h
    refine mg_Vi (As := [.int (I v1 0)]) (rest := []) (ct_X1_depthOf l (w := w) (I := I) (R := R) (kk_5_1 kf_0) e6) C K hP hS hl.1 (kk_5_1 kf_0) (by decide) rfl rfl ml_X8_178 wy_X1_depthOf wd_X1_depthOf rfl rfl rfl ⟨Nat.le_of_ble_eq_true rfl, Nat.le_of_ble_eq_true rfl⟩ (Nat.le_of_ble_eq_true rfl) ⟨Nat.zero_le _, Nat.zero_le _⟩ dX8_tellOfAny_71 (fun H locs hP hS => ?_)
    cases h
    exact mt_i hC hr hlk K hP hS dX8_tellOfAny_74
  replace h := mc_ie h c4
  by_cases c7 : v2 = 3
  · replace h := mc_it h c7
    refine lv_tableIn (off := 74) (tgt := 75) hx hb dX8_tellOfAny_1 (by rw [c7]; decide) (by rw [c7]; decide) (by rw [c7]; decide) (by decide) ?_
    refine lv_aload_n hx hb dX8_tellOfAny_75 rfl (lv_at hl 1 rfl) ?_
    refine mf_X8_201 C K hP kv1 dX8_tellOfAny_76 ?_
    refine lv_if_eq (tgt := 86) hx hb dX8_tellOfAny_79 (by decide) (fun c8 => ?_) (fun c8 => ?_)
    · replace h := mc_it h c8
      refine lv_iconst (v := 0) hx hb dX8_tellOfAny_86 (by decide) ?_
      cases h
      exact mt_i hC hr hlk K hP hS dX8_tellOfAny_87
    · replace h := mc_ie h c8
      refine lv_iconst (v := 1) hx hb dX8_tellOfAny_82 (by decide) ?_
      refine lv_goto (tgt := 87) hx hb dX8_tellOfAny_83 (by decide) ?_
      cases h
      exact mt_i hC hr hlk K hP hS dX8_tellOfAny_87
  replace h := mc_ie h c7
  by_cases c9 : v2 = 4
  · replace h := mc_it h c9
    refine lv_tableIn (off := 87) (tgt := 88) hx hb dX8_tellOfAny_1 (by rw [c9]; decide) (by rw [c9]; decide) (by rw [c9]; decide) (by decide) ?_
    refine lv_aload_n hx hb dX8_tellOfAny_88 rfl (lv_at hl 1 rfl) ?_
    refine mf_X8_249 C K hP kv1 dX8_tellOfAny_89 ?_
    refine lv_if_eq (tgt := 99) hx hb dX8_tellOfAny_92 (by decide) (fun c10 => ?_) (fun c10 => ?_)
    · replace h := mc_it h c10
      refine lv_iconst (v := 0) hx hb dX8_tellOfAny_99 (by decide) ?_
      cases h
      exact mt_i hC hr hlk K hP hS dX8_tellOfAny_100
    · replace h := mc_ie h c10
      refine lv_iconst (v := 1) hx hb dX8_tellOfAny_95 (by decide) ?_
      refine lv_goto (tgt := 100) hx hb dX8_tellOfAny_96 (by decide) ?_
      cases h
      exact mt_i hC hr hlk K hP hS dX8_tellOfAny_100
  replace h := mc_ie h c9
  by_cases c11 : v2 = 5
  · replace h := mc_it h c11
    refine lv_tableIn (off := 100) (tgt := 101) hx hb dX8_tellOfAny_1 (by rw [c11]; decide) (by rw [c11]; decide) (by rw [c11]; decide) (by decide) ?_
    refine lv_aload_n hx hb dX8_tellOfAny_101 rfl (lv_at hl 1 rfl) ?_
    refine mf_X8_252 C K hP kv1 dX8_tellOfAny_102 ?_
    cases h
    exact mt_i hC hr hlk K hP hS dX8_tellOfAny_105
  replace h := mc_ie h c11
  refine lv_tableOut (tgt := 106) hx hb dX8_tellOfAny_1 (mc_sw (lo := 0) (hi := 5) (fun v h1 h2 => by rcases (show v = 0 ∨ v = 1 ∨ v = 2 ∨ v = 3 ∨ v = 4 ∨ v = 5 by omega) with rfl | rfl | rfl | rfl | rfl | rfl <;> first | exact ⟨0, by decide, c1⟩ | exact ⟨1, by decide, c2⟩ | exact ⟨2, by decide, c4⟩ | exact ⟨3, by decide, c7⟩ | exact ⟨4, by decide, c9⟩ | exact ⟨5, by decide, c11⟩)) (by decide) ?_
  refine lv_aload_n hx hb dX8_tellOfAny_106 rfl (lv_at hl 1 rfl) ?_
  refine mf_X8_255 C K hP kv1 dX8_tellOfAny_107 ?_
  refine lv_if_eq (tgt := 117) hx hb dX8_tellOfAny_110 (by decide) (fun c12 => ?_) (fun c12 => ?_)
  · replace h := mc_it h c12
    refine lv_iconst (v := 0) hx hb dX8_tellOfAny_117 (by decide) ?_
    cases h
    exact mt_i hC hr hlk K hP hS dX8_tellOfAny_118
  · replace h := mc_ie h c12
    refine lv_iconst (v := 1) hx hb dX8_tellOfAny_113 (by decide) ?_
    refine lv_goto (tgt := 118) hx hb dX8_tellOfAny_114 (by decide) ?_
    cases h
    exact mt_i hC hr hlk K hP hS dX8_tellOfAny_118
set_option maxHeartbeats 4000000 in
set_option maxRecDepth 100000 in
theorem ct_X8_bottle (l : Launch) {w : mc_w} {I : Nat → Nat → Int32} {R : Nat → Nat → Option Nat} {v1 : Int32} {v2 : Int32} {rz : Int32} (h : mi_X8_bottle I R v1 v2 = some rz) : Met l yX8_bottle (Cond.code yX8_bottle cX8_bottle 4 (some .int) :: mc_big) ({ frames := 4, cells := 0, slots := 0, locals := 85 } : Room) (va_Pc [.ref (w.2.2.1 144), .int v1, .int v2] (mc_B mc_k 152 w I R)) (mc_Q (some (.int rz)) (mc_B mc_k 152 w I R) (mc_A 152 w)) 0 0 (mc_A 152 w) := by
  refine Met.ofW (cc := cX8_bottle) (maxL := 4) (ret := (some .int)) (by decide) rfl ?_
  intro p e s m args below meth c s₁ B hml hv
  obtain ⟨rfl, hP, K⟩ := hv
  have hown : s.vm.findClass RX8 = some m.cls := findClass_of_methodNamed B.named
  have C : CallFix p m c cX8_bottle 4 s _ mc_big RX8 := ⟨B.exec, B.bytes, hml, hown, fun w hw => atoms_spec B.pre w (List.mem_cons_of_mem _ hw)⟩
  have hx := C.1
  have hb := C.2.1
  have hC := And.intro C.1 C.2.1
  have hr := B.returns
  have hlk := B.notSynchronized
  have hS : va_S (mc_A 152 w) s.heap s.heap [] := va_S.rf
  have hl := lv_entry ([.ref (w.2.2.1 144), .int v1, .int v2]) (n := 4) (Nat.le_of_ble_eq_true rfl)
  rw [lg_entry_eq]
  generalize (lg_sl ([.ref (w.2.2.1 144), .int v1, .int v2]) ++ List.replicate (4 - (lg_sl ([.ref (w.2.2.1 144), .int v1, .int v2])).length) Slot.unset).toArray = ls at hl ⊢
  have hl : lv_has ls 4 [(0, .ref (w.2.2.1 144)), (1, .int v1), (2, .int v2)] := hl
  unfold mi_X8_bottle at h
  refine lv_aload_n hx hb dX8_bottle_0 rfl (lv_at hl 0 rfl) ?_
  refine mf_X8_10 C K hP kf_144 dX8_bottle_1 ?_
  refine lv_iload_n hx hb dX8_bottle_4 rfl (lv_at hl 1 rfl) ?_
  obtain ⟨r1, e2, h⟩ := mc_ob_e h
  refine mg_Vr (As := [.int v1]) (rest := []) (ct_X5_bottleAt l (w := w) (I := I) (R := R) kf_0 e2) C K hP hS hl.1 kf_0 (by decide) rfl rfl ml_X8_151 wy_X5_bottleAt wd_X5_bottleAt rfl rfl rfl ⟨Nat.le_of_ble_eq_true rfl, Nat.le_of_ble_eq_true rfl⟩ (Nat.le_of_ble_eq_true rfl) ⟨Nat.zero_le _, Nat.zero_le _⟩ dX8_bottle_5 (fun H locs hP tr1 hS => ?_)
  refine mv_astore_n (i := 3) (lv' := [(3, va_re w.2.2.1 r1), (0, .ref (w.2.2.1 144)), (1, .int v1), (2, .int v2)]) hC dX8_bottle_8 rfl hl (by decide) rfl (fun ls hl => ?_)
  refine mv_aload_n hC dX8_bottle_9 rfl (lv_at hl 0 rfl) ?_
  rcases r1 with _ | b3
  · replace h := mc_om_n h
    refine lv_ifnonnullN hx hb dX8_bottle_10 ?_
    have hl : lv_has ls 4 [(3, va_re w.2.2.1 none), (0, .ref (w.2.2.1 144)), (1, .int v1), (2, .int v2)] := hl
    refine lv_sipush (v := (-1001)) hx hb dX8_bottle_13 (by decide) ?_
    cases h
    exact mt_i hC hr hlk K hP hS dX8_bottle_16
  · replace h := mc_om_s h
    have kb3 := tr1 b3 rfl
    refine lv_ifnonnull (tgt := 17) hx hb dX8_bottle_10 (by decide) ?_
    have hl : lv_has ls 4 [(3, .ref (w.2.2.1 b3)), (0, .ref (w.2.2.1 144)), (1, .int v1), (2, .int v2)] := hl
    refine lv_iload_n hx hb dX8_bottle_17 rfl (lv_at hl 3 rfl) ?_
    refine lv_if_lt (tgt := 27) hx hb dX8_bottle_18 (by decide) (fun c4 => ?_) (fun c4 => ?_)
    · replace h := mc_it h c4
      refine lv_sipush (v := (-1002)) hx hb dX8_bottle_27 (by decide) ?_
      cases h
      exact mt_i hC hr hlk K hP hS dX8_bottle_30
    · replace h := mc_ie h c4
      refine lv_iload_n hx hb dX8_bottle_21 rfl (lv_at hl 3 rfl) ?_
      refine lv_bipush (v := 13) hx hb dX8_bottle_22 (by decide) ?_
      refine lv_icmp_le (tgt := 31) hx hb dX8_bottle_24 (by decide) (fun c5 => ?_) (fun c5 => ?_)
      · replace h := mc_it h c5
        refine lv_iload_n hx hb dX8_bottle_31 rfl (lv_at hl 3 rfl) ?_
        refine lv_bipush (v := 6) hx hb dX8_bottle_32 (by decide) ?_
        refine lv_icmp_lt (tgt := 52) hx hb dX8_bottle_34 (by decide) (fun c6 => ?_) (fun c6 => ?_)
        · replace h := mc_it h c6
          refine lv_aload_n hx hb dX8_bottle_52 rfl (lv_at hl 1 rfl) ?_
          refine lv_aload_n hx hb dX8_bottle_53 rfl (lv_at hl 0 rfl) ?_
          refine lv_iload_n hx hb dX8_bottle_54 rfl (lv_at hl 3 rfl) ?_
          obtain ⟨r7, e8, h⟩ := mc_ob_e h
          refine mg_Vi (As := [.ref (w.2.2.1 b3), .int v2]) (rest := []) (ct_X8_tellOfAny l (w := w) (I := I) (R := R) kb3 e8) C K hP hS hl.1 kf_144 (by decide) rfl rfl ml_X8_159 wy_X8_tellOfAny wd_X8_tellOfAny rfl rfl rfl ⟨Nat.le_of_ble_eq_true rfl, Nat.le_of_ble_eq_true rfl⟩ (Nat.le_of_ble_eq_true rfl) ⟨Nat.zero_le _, Nat.zero_le _⟩ dX8_bottle_55 (fun H locs hP hS => ?_)
          cases h
          exact mt_i hC hr hlk K hP hS dX8_bottle_58
        · replace h := mc_ie h c6
          refine lv_iload_n hx hb dX8_bottle_37 rfl (lv_at hl 3 rfl) ?_
          refine lv_bipush (v := 12) hx hb dX8_bottle_38 (by decide) ?_
          refine lv_icmp_gt (tgt := 52) hx hb dX8_bottle_40 (by decide) (fun c9 => ?_) (fun c9 => ?_)
          · replace h := mc_it h c9
            refine lv_aload_n hx hb dX8_bottle_52 rfl (lv_at hl 1 rfl) ?_
            refine lv_aload_n hx hb dX8_bottle_53 rfl (lv_at hl 0 rfl) ?_
            refine lv_iload_n hx hb dX8_bottle_54 rfl (lv_at hl 3 rfl) ?_
            obtain ⟨r10, e11, h⟩ := mc_ob_e h
            refine mg_Vi (As := [.ref (w.2.2.1 b3), .int v2]) (rest := []) (ct_X8_tellOfAny l (w := w) (I := I) (R := R) kb3 e11) C K hP hS hl.1 kf_144 (by decide) rfl rfl ml_X8_159 wy_X8_tellOfAny wd_X8_tellOfAny rfl rfl rfl ⟨Nat.le_of_ble_eq_true rfl, Nat.le_of_ble_eq_true rfl⟩ (Nat.le_of_ble_eq_true rfl) ⟨Nat.zero_le _, Nat.zero_le _⟩ dX8_bottle_55 (fun H locs hP hS => ?_)
            cases h
            exact mt_i hC hr hlk K hP hS dX8_bottle_58
          · replace h := mc_ie h c9
            refine lv_aload_n hx hb dX8_bottle_43 rfl (lv_at hl 1 rfl) ?_
            refine lv_aload_n hx hb dX8_bottle_44 rfl (lv_at hl 0 rfl) ?_
            refine lv_iload_n hx hb dX8_bottle_45 rfl (lv_at hl 3 rfl) ?_
            refine mg_Vi (As := [.ref (w.2.2.1 b3), .int v2]) (rest := []) (ct_X8_tellOfShut l (w := w) (I := I) (R := R) kb3 rfl) C K hP hS hl.1 kf_144 (by decide) rfl rfl ml_X8_155 wy_X8_tellOfShut wd_X8_tellOfShut rfl rfl rfl ⟨Nat.le_of_ble_eq_true rfl, Nat.le_of_ble_eq_true rfl⟩ (Nat.le_of_ble_eq_true rfl) ⟨Nat.zero_le _, Nat.zero_le _⟩ dX8_bottle_46 (fun H locs hP hS => ?_)
            refine lv_goto (tgt := 58) hx hb dX8_bottle_49 (by decide) ?_
            cases h
            exact mt_i hC hr hlk K hP hS dX8_bottle_58
      · replace h := mc_ie h c5
        refine lv_sipush (v := (-1002)) hx hb dX8_bottle_27 (by decide) ?_
        cases h
        exact mt_i hC hr hlk K hP hS dX8_bottle_30
set_option maxHeartbeats 4000000 in
set_option maxRecDepth 100000 in
theorem ct_X8_messenger (l : Launch) {w : mc_w} {I : Nat → Nat → Int32} {R : Nat → Nat → Option Nat} {v1 : Int32} {v2 : Int32} {rz : Int32} (h : mi_X8_messenger I v1 v2 = some rz) : Met l yX8_messenger (Cond.code yX8_messenger cX8_messenger 4 (some .int) :: mc_big) ({ frames := 3, cells := 0, slots := 0, locals := 63 } : Room) (va_Pc [.ref (w.2.2.1 144), .int v1, .int v2] (mc_B mc_k 152 w I R)) (mc_Q (some (.int rz)) (mc_B mc_k 152 w I R) (mc_A 152 w)) 0 0 (mc_A 152 w) := by
  refine Met.ofW (cc := cX8_messenger) (maxL := 4) (ret := (some .int)) (by decide) rfl ?_
  intro p e s m args below meth c s₁ B hml hv
  obtain ⟨rfl, hP, K⟩ := hv
  have hown : s.vm.findClass RX8 = some m.cls := findClass_of_methodNamed B.named
  have C : CallFix p m c cX8_messenger 4 s _ mc_big RX8 := ⟨B.exec, B.bytes, hml, hown, fun w hw => atoms_spec B.pre w (List.mem_cons_of_mem _ hw)⟩
  have hx := C.1
  have hb := C.2.1
  have hC := And.intro C.1 C.2.1
  have hr := B.returns
  have hlk := B.notSynchronized
  have hS : va_S (mc_A 152 w) s.heap s.heap [] := va_S.rf
  have hl := lv_entry ([.ref (w.2.2.1 144), .int v1, .int v2]) (n := 4) (Nat.le_of_ble_eq_true rfl)
  rw [lg_entry_eq]
  generalize (lg_sl ([.ref (w.2.2.1 144), .int v1, .int v2]) ++ List.replicate (4 - (lg_sl ([.ref (w.2.2.1 144), .int v1, .int v2])).length) Slot.unset).toArray = ls at hl ⊢
  have hl : lv_has ls 4 [(0, .ref (w.2.2.1 144)), (1, .int v1), (2, .int v2)] := hl
  unfold mi_X8_messenger at h
  refine lv_iload_n hx hb dX8_messenger_0 rfl (lv_at hl 1 rfl) ?_
  refine lv_if_lt (tgt := 13) hx hb dX8_messenger_1 (by decide) (fun c1 => ?_) (fun c1 => ?_)
  · replace h := mc_it h c1
    refine lv_sipush (v := (-1002)) hx hb dX8_messenger_13 (by decide) ?_
    cases h
    exact mt_i hC hr hlk K hP hS dX8_messenger_16
  · replace h := mc_ie h c1
    refine lv_iload_n hx hb dX8_messenger_4 rfl (lv_at hl 2 rfl) ?_
    refine lv_if_lt (tgt := 13) hx hb dX8_messenger_5 (by decide) (fun c2 => ?_) (fun c2 => ?_)
    · replace h := mc_it h c2
      refine lv_sipush (v := (-1002)) hx hb dX8_messenger_13 (by decide) ?_
      cases h
      exact mt_i hC hr hlk K hP hS dX8_messenger_16
    · replace h := mc_ie h c2
      refine lv_iload_n hx hb dX8_messenger_8 rfl (lv_at hl 2 rfl) ?_
      refine lv_iconst (v := 1) hx hb dX8_messenger_9 (by decide) ?_
      refine lv_icmp_le (tgt := 17) hx hb dX8_messenger_10 (by decide) (fun c3 => ?_) (fun c3 => ?_)
      · replace h := mc_it h c3
        refine lv_iload_n hx hb dX8_messenger_17 rfl (lv_at hl 1 rfl) ?_
        refine lv_aload_n hx hb dX8_messenger_18 rfl (lv_at hl 0 rfl) ?_
        refine mf_X8_10 C K hP kf_144 dX8_messenger_19 ?_
        refine mf_X8_162 C K hP kf_0 dX8_messenger_22 ?_
        refine mf_X8_166 C K hP (kk_5_5 kf_0) dX8_messenger_25 ?_
        refine lv_icmp_lt (tgt := 35) hx hb dX8_messenger_28 (by decide) (fun c4 => ?_) (fun c4 => ?_)
        · replace h := mc_it h c4
          refine lv_aload_n hx hb dX8_messenger_35 rfl (lv_at hl 0 rfl) ?_
          refine mf_X8_10 C K hP kf_144 dX8_messenger_36 ?_
          refine mf_X8_162 C K hP kf_0 dX8_messenger_39 ?_
          refine lv_iload_n hx hb dX8_messenger_42 rfl (lv_at hl 1 rfl) ?_
          obtain ⟨r5, e6, h⟩ := mc_ob_e h
          refine mg_Vi (As := [.int v1]) (rest := []) (ct_X4_markAt l (w := w) (I := I) (R := R) (kk_5_5 kf_0) e6) C K hP hS hl.1 (kk_5_5 kf_0) (by decide) rfl rfl ml_X8_171 wy_X4_markAt wd_X4_markAt rfl rfl rfl ⟨Nat.le_of_ble_eq_true rfl, Nat.le_of_ble_eq_true rfl⟩ (Nat.le_of_ble_eq_true rfl) ⟨Nat.zero_le _, Nat.zero_le _⟩ dX8_messenger_43 (fun H locs hP hS => ?_)
          refine lv_istore_n (i := 3) (lv' := [(3, .int r5), (0, .ref (w.2.2.1 144)), (1, .int v1), (2, .int v2)]) hx hb dX8_messenger_46 rfl hl (by decide) rfl (fun ls hl => ?_)
          refine lv_iload_n hx hb dX8_messenger_47 rfl (lv_at hl 3 rfl) ?_
          refine lv_if_ne (tgt := 55) hx hb dX8_messenger_48 (by decide) (fun c7 => ?_) (fun c7 => ?_)
          · replace h := mc_ie h c7
            refine lv_aload_n hx hb dX8_messenger_55 rfl (lv_at hl 1 rfl) ?_
            refine mf_X8_10 C K hP kf_144 dX8_messenger_56 ?_
            refine mf_X8_174 C K hP kf_0 dX8_messenger_59 ?_
            refine lv_iload_n hx hb dX8_messenger_62 rfl (lv_at hl 0 rfl) ?_
            obtain ⟨r8, e9, h⟩ := mc_ob_e h
            refine mg_Vi (As := [.int r5]) (rest := []) (ct_X1_depthOf l (w := w) (I := I) (R := R) (kk_5_1 kf_0) e9) C K hP hS hl.1 (kk_5_1 kf_0) (by decide) rfl rfl ml_X8_178 wy_X1_depthOf wd_X1_depthOf rfl rfl rfl ⟨Nat.le_of_ble_eq_true rfl, Nat.le_of_ble_eq_true rfl⟩ (Nat.le_of_ble_eq_true rfl) ⟨Nat.zero_le _, Nat.zero_le _⟩ dX8_messenger_63 (fun H locs hP hS => ?_)
            cases h
            exact mt_i hC hr hlk K hP hS dX8_messenger_66
          · replace h := mc_it h c7
            refine lv_iload_n hx hb dX8_messenger_51 rfl (lv_at hl 0 rfl) ?_
            refine lv_goto (tgt := 66) hx hb dX8_messenger_52 (by decide) ?_
            cases h
            exact mt_i hC hr hlk K hP hS dX8_messenger_66
        · replace h := mc_ie h c4
          refine lv_sipush (v := (-1005)) hx hb dX8_messenger_31 (by decide) ?_
          cases h
          exact mt_i hC hr hlk K hP hS dX8_messenger_34
      · replace h := mc_ie h c3
        refine lv_sipush (v := (-1002)) hx hb dX8_messenger_13 (by decide) ?_
        cases h
        exact mt_i hC hr hlk K hP hS dX8_messenger_16
set_option maxHeartbeats 4000000 in
set_option maxRecDepth 100000 in
theorem ct_X8_layer (l : Launch) {w : mc_w} {I : Nat → Nat → Int32} {R : Nat → Nat → Option Nat} {F : Nat} {v1 : Int32} {v2 : Int32} {rz : Int32} (h : mi_X8_layer F I R v1 v2 = some rz) : Met l yX8_layer (Cond.code yX8_layer cX8_layer 3 (some .int) :: mc_big) ({ frames := 4, cells := 0, slots := 0, locals := 87 } : Room) (va_Pc [.ref (w.2.2.1 144), .int v1, .int v2] (mc_B mc_k 152 w I R)) (mc_Q (some (.int rz)) (mc_B mc_k 152 w I R) (mc_A 152 w)) 0 0 (mc_A 152 w) := by
  refine Met.ofW (cc := cX8_layer) (maxL := 3) (ret := (some .int)) (by decide) rfl ?_
  intro p e s m args below meth c s₁ B hml hv
  obtain ⟨rfl, hP, K⟩ := hv
  have hown : s.vm.findClass RX8 = some m.cls := findClass_of_methodNamed B.named
  have C : CallFix p m c cX8_layer 3 s _ mc_big RX8 := ⟨B.exec, B.bytes, hml, hown, fun w hw => atoms_spec B.pre w (List.mem_cons_of_mem _ hw)⟩
  have hx := C.1
  have hb := C.2.1
  have hC := And.intro C.1 C.2.1
  have hr := B.returns
  have hlk := B.notSynchronized
  have hS : va_S (mc_A 152 w) s.heap s.heap [] := va_S.rf
  have hl := lv_entry ([.ref (w.2.2.1 144), .int v1, .int v2]) (n := 3) (Nat.le_of_ble_eq_true rfl)
  rw [lg_entry_eq]
  generalize (lg_sl ([.ref (w.2.2.1 144), .int v1, .int v2]) ++ List.replicate (3 - (lg_sl ([.ref (w.2.2.1 144), .int v1, .int v2])).length) Slot.unset).toArray = ls at hl ⊢
  have hl : lv_has ls 3 [(0, .ref (w.2.2.1 144)), (1, .int v1), (2, .int v2)] := hl
  unfold mi_X8_layer at h
  refine lv_aload_n hx hb dX8_layer_0 rfl (lv_at hl 0 rfl) ?_
  refine mf_X8_10 C K hP kf_144 dX8_layer_1 ?_
  refine mf_X8_77 C K hP kf_0 dX8_layer_4 ?_
  refine lv_iload_n hx hb dX8_layer_7 rfl (lv_at hl 1 rfl) ?_
  refine mg_Vz (As := [.int v1]) (rest := []) (ct_X7_has l (w := w) (I := I) (R := R) (kk_5_2 kf_0) rfl) C K hP hS hl.1 (kk_5_2 kf_0) (by decide) rfl rfl ml_X8_183 wy_X7_has wd_X7_has rfl rfl rfl ⟨Nat.le_of_ble_eq_true rfl, Nat.le_of_ble_eq_true rfl⟩ (Nat.le_of_ble_eq_true rfl) ⟨Nat.zero_le _, Nat.zero_le _⟩ dX8_layer_8 (fun H locs hP z2 hS => ?_)
  refine lv_if_ne (tgt := 18) hx hb dX8_layer_11 (by decide) (fun c3 => ?_) (fun c3 => ?_)
  · replace h := mc_ie h c3
    refine lv_iload_n hx hb dX8_layer_18 rfl (lv_at hl 2 rfl) ?_
    by_cases c4 : v2 = 0
    · replace h := mc_it h c4
      refine lv_tableIn (off := 29) (tgt := 48) hx hb dX8_layer_19 (by rw [c4]; decide) (by rw [c4]; decide) (by rw [c4]; decide) (by decide) ?_
      refine lv_aload_n hx hb dX8_layer_48 rfl (lv_at hl 0 rfl) ?_
      refine mf_X8_10 C K hP kf_144 dX8_layer_49 ?_
      refine mf_X8_77 C K hP kf_0 dX8_layer_52 ?_
      refine lv_iload_n hx hb dX8_layer_55 rfl (lv_at hl 1 rfl) ?_
      obtain ⟨r5, e6, h⟩ := mc_ob_e h
      refine mg_Vi (As := [.int v1]) (rest := []) (ct_X7_warmthIn l (w := w) (I := I) (R := R) (kk_5_2 kf_0) e6) C K hP hS hl.1 (kk_5_2 kf_0) (by decide) rfl rfl ml_X8_186 wy_X7_warmthIn wd_X7_warmthIn rfl rfl rfl ⟨Nat.le_of_ble_eq_true rfl, Nat.le_of_ble_eq_true rfl⟩ (Nat.le_of_ble_eq_true rfl) ⟨Nat.zero_le _, Nat.zero_le _⟩ dX8_layer_56 (fun H locs hP hS => ?_)
      cases h
      exact mt_i hC hr hlk K hP hS dX8_layer_59
    replace h := mc_ie h c4
    by_cases c7 : v2 = 1
    · replace h := mc_it h c7
      refine lv_tableIn (off := 41) (tgt := 60) hx hb dX8_layer_19 (by rw [c7]; decide) (by rw [c7]; decide) (by rw [c7]; decide) (by decide) ?_
      refine lv_aload_n hx hb dX8_layer_60 rfl (lv_at hl 0 rfl) ?_
      refine mf_X8_10 C K hP kf_144 dX8_layer_61 ?_
      refine mf_X8_77 C K hP kf_0 dX8_layer_64 ?_
      refine lv_iload_n hx hb dX8_layer_67 rfl (lv_at hl 1 rfl) ?_
      obtain ⟨r8, e9, h⟩ := mc_ob_e h
      refine mg_Vi (As := [.int v1]) (rest := []) (ct_X7_saltIn l (w := w) (I := I) (R := R) (kk_5_2 kf_0) e9) C K hP hS hl.1 (kk_5_2 kf_0) (by decide) rfl rfl ml_X8_189 wy_X7_saltIn wd_X7_saltIn rfl rfl rfl ⟨Nat.le_of_ble_eq_true rfl, Nat.le_of_ble_eq_true rfl⟩ (Nat.le_of_ble_eq_true rfl) ⟨Nat.zero_le _, Nat.zero_le _⟩ dX8_layer_68 (fun H locs hP hS => ?_)
      cases h
      exact mt_i hC hr hlk K hP hS dX8_layer_71
    replace h := mc_ie h c7
    by_cases c10 : v2 = 2
    · replace h := mc_it h c10
      refine lv_tableIn (off := 53) (tgt := 72) hx hb dX8_layer_19 (by rw [c10]; decide) (by rw [c10]; decide) (by rw [c10]; decide) (by decide) ?_
      refine lv_aload_n hx hb dX8_layer_72 rfl (lv_at hl 0 rfl) ?_
      refine mf_X8_10 C K hP kf_144 dX8_layer_73 ?_
      refine lv_iload_n hx hb dX8_layer_76 rfl (lv_at hl 1 rfl) ?_
      obtain ⟨r11, e12, h⟩ := mc_ob_e h
      refine mg_Vi (As := [.int v1]) (rest := []) (ct_X5_openInLayer l (w := w) (I := I) (R := R) kf_0 e12) C K hP hS hl.1 kf_0 (by decide) rfl rfl ml_X8_192 wy_X5_openInLayer wd_X5_openInLayer rfl rfl rfl ⟨Nat.le_of_ble_eq_true rfl, Nat.le_of_ble_eq_true rfl⟩ (Nat.le_of_ble_eq_true rfl) ⟨Nat.zero_le _, Nat.zero_le _⟩ dX8_layer_77 (fun H locs hP hS => ?_)
      cases h
      exact mt_i hC hr hlk K hP hS dX8_layer_80
    replace h := mc_ie h c10
    by_cases c13 : v2 = 3
    · replace h := mc_it h c13
      refine lv_tableIn (off := 62) (tgt := 81) hx hb dX8_layer_19 (by rw [c13]; decide) (by rw [c13]; decide) (by rw [c13]; decide) (by decide) ?_
      refine lv_aload_n hx hb dX8_layer_81 rfl (lv_at hl 0 rfl) ?_
      refine mf_X8_10 C K hP kf_144 dX8_layer_82 ?_
      refine lv_iload_n hx hb dX8_layer_85 rfl (lv_at hl 1 rfl) ?_
      obtain ⟨r14, e15, h⟩ := mc_ob_e h
      refine mg_Vi (As := [.int v1]) (rest := []) (ct_X5_shutInLayer l (w := w) (I := I) (R := R) kf_0 e15) C K hP hS hl.1 kf_0 (by decide) rfl rfl ml_X8_195 wy_X5_shutInLayer wd_X5_shutInLayer rfl rfl rfl ⟨Nat.le_of_ble_eq_true rfl, Nat.le_of_ble_eq_true rfl⟩ (Nat.le_of_ble_eq_true rfl) ⟨Nat.zero_le _, Nat.zero_le _⟩ dX8_layer_86 (fun H locs hP hS => ?_)
      cases h
      exact mt_i hC hr hlk K hP hS dX8_layer_89
    replace h := mc_ie h c13
    refine lv_tableOut (tgt := 90) hx hb dX8_layer_19 (mc_sw (lo := 0) (hi := 3) (fun v h1 h2 => by rcases (show v = 0 ∨ v = 1 ∨ v = 2 ∨ v = 3 by omega) with rfl | rfl | rfl | rfl <;> first | exact ⟨0, by decide, c4⟩ | exact ⟨1, by decide, c7⟩ | exact ⟨2, by decide, c10⟩ | exact ⟨3, by decide, c13⟩)) (by decide) ?_
    refine lv_sipush (v := (-1002)) hx hb dX8_layer_90 (by decide) ?_
    cases h
    exact mt_i hC hr hlk K hP hS dX8_layer_93
  · replace h := mc_it h c3
    refine lv_sipush (v := (-1001)) hx hb dX8_layer_14 (by decide) ?_
    cases h
    exact mt_i hC hr hlk K hP hS dX8_layer_17
set_option maxHeartbeats 4000000 in
set_option maxRecDepth 100000 in
theorem ct_X8_depth (l : Launch) {w : mc_w} {I : Nat → Nat → Int32} {R : Nat → Nat → Option Nat} {v1 : Int32} {v2 : Int32} {rz : Int32} (h : mi_X8_depth I v1 v2 = some rz) : Met l yX8_depth (Cond.code yX8_depth cX8_depth 3 (some .int) :: mc_big) ({ frames := 1, cells := 0, slots := 0, locals := 21 } : Room) (va_Pc [.ref (w.2.2.1 144), .int v1, .int v2] (mc_B mc_k 152 w I R)) (mc_Q (some (.int rz)) (mc_B mc_k 152 w I R) (mc_A 152 w)) 0 0 (mc_A 152 w) := by
  refine Met.ofW (cc := cX8_depth) (maxL := 3) (ret := (some .int)) (by decide) rfl ?_
  intro p e s m args below meth c s₁ B hml hv
  obtain ⟨rfl, hP, K⟩ := hv
  have hown : s.vm.findClass RX8 = some m.cls := findClass_of_methodNamed B.named
  have C : CallFix p m c cX8_depth 3 s _ mc_big RX8 := ⟨B.exec, B.bytes, hml, hown, fun w hw => atoms_spec B.pre w (List.mem_cons_of_mem _ hw)⟩
  have hx := C.1
  have hb := C.2.1
  have hC := And.intro C.1 C.2.1
  have hr := B.returns
  have hlk := B.notSynchronized
  have hS : va_S (mc_A 152 w) s.heap s.heap [] := va_S.rf
  have hl := lv_entry ([.ref (w.2.2.1 144), .int v1, .int v2]) (n := 3) (Nat.le_of_ble_eq_true rfl)
  rw [lg_entry_eq]
  generalize (lg_sl ([.ref (w.2.2.1 144), .int v1, .int v2]) ++ List.replicate (3 - (lg_sl ([.ref (w.2.2.1 144), .int v1, .int v2])).length) Slot.unset).toArray = ls at hl ⊢
  have hl : lv_has ls 3 [(0, .ref (w.2.2.1 144)), (1, .int v1), (2, .int v2)] := hl
  unfold mi_X8_depth at h
  refine lv_iload_n hx hb dX8_depth_0 rfl (lv_at hl 1 rfl) ?_
  refine lv_if_lt (tgt := 21) hx hb dX8_depth_1 (by decide) (fun c1 => ?_) (fun c1 => ?_)
  · replace h := mc_it h c1
    refine lv_sipush (v := (-1002)) hx hb dX8_depth_21 (by decide) ?_
    cases h
    exact mt_i hC hr hlk K hP hS dX8_depth_24
  · replace h := mc_ie h c1
    refine lv_iload_n hx hb dX8_depth_4 rfl (lv_at hl 1 rfl) ?_
    refine lv_sipush (v := 999) hx hb dX8_depth_5 (by decide) ?_
    refine lv_icmp_gt (tgt := 21) hx hb dX8_depth_8 (by decide) (fun c2 => ?_) (fun c2 => ?_)
    · replace h := mc_it h c2
      refine lv_sipush (v := (-1002)) hx hb dX8_depth_21 (by decide) ?_
      cases h
      exact mt_i hC hr hlk K hP hS dX8_depth_24
    · replace h := mc_ie h c2
      refine lv_iload_n hx hb dX8_depth_11 rfl (lv_at hl 2 rfl) ?_
      refine lv_if_lt (tgt := 21) hx hb dX8_depth_12 (by decide) (fun c3 => ?_) (fun c3 => ?_)
      · replace h := mc_it h c3
        refine lv_sipush (v := (-1002)) hx hb dX8_depth_21 (by decide) ?_
        cases h
        exact mt_i hC hr hlk K hP hS dX8_depth_24
      · replace h := mc_ie h c3
        refine lv_iload_n hx hb dX8_depth_15 rfl (lv_at hl 2 rfl) ?_
        refine lv_bipush (v := 6) hx hb dX8_depth_16 (by decide) ?_
        refine lv_icmp_le (tgt := 25) hx hb dX8_depth_18 (by decide) (fun c4 => ?_) (fun c4 => ?_)
        · replace h := mc_it h c4
          refine lv_iload_n hx hb dX8_depth_25 rfl (lv_at hl 1 rfl) ?_
          refine lv_iload_n hx hb dX8_depth_26 rfl (lv_at hl 2 rfl) ?_
          obtain ⟨r5, e6, h⟩ := mc_ob_e h
          refine mg_Si (As := [.int v1, .int v2]) (rest := []) (ct_X8_depthAt l (w := w) (I := I) (R := R) e6) C K hP hS hl.1 ml_X8_198 wy_X8_depthAt wd_X8_depthAt rfl rfl rfl ⟨Nat.le_of_ble_eq_true rfl, Nat.le_of_ble_eq_true rfl⟩ (Nat.le_of_ble_eq_true rfl) ⟨Nat.zero_le _, Nat.zero_le _⟩ dX8_depth_27 (fun H locs hP hS => ?_)
          cases h
          exact mt_i hC hr hlk K hP hS dX8_depth_30
        · replace h := mc_ie h c4
          refine lv_sipush (v := (-1002)) hx hb dX8_depth_21 (by decide) ?_
          cases h
          exact mt_i hC hr hlk K hP hS dX8_depth_24
set_option maxHeartbeats 4000000 in
set_option maxRecDepth 100000 in
theorem ct_X8_secondsToShut (l : Launch) {w : mc_w} {I : Nat → Nat → Int32} {R : Nat → Nat → Option Nat} {F : Nat} {v1 : Int32} {Iz : Nat → Nat → Int32} {rz : Int32} (h : mi_X8_secondsToShut F I R v1 = some (Iz, rz)) : Met l yX8_secondsToShut (Cond.code yX8_secondsToShut cX8_secondsToShut 2 (some .int) :: mc_big) ({ frames := 6, cells := 0, slots := 0, locals := 135 } : Room) (va_Pc [.ref (w.2.2.1 144), .int v1] (mc_B mc_k 152 w I R)) (mc_Q (some (.int rz)) (mc_B mc_k 152 w Iz R) (mc_A 152 w)) 0 0 (mc_A 152 w) := by
  refine Met.ofW (cc := cX8_secondsToShut) (maxL := 2) (ret := (some .int)) (by decide) rfl ?_
  intro p e s m args below meth c s₁ B hml hv
  obtain ⟨rfl, hP, K⟩ := hv
  have hown : s.vm.findClass RX8 = some m.cls := findClass_of_methodNamed B.named
  have C : CallFix p m c cX8_secondsToShut 2 s _ mc_big RX8 := ⟨B.exec, B.bytes, hml, hown, fun w hw => atoms_spec B.pre w (List.mem_cons_of_mem _ hw)⟩
  have hx := C.1
  have hb := C.2.1
  have hC := And.intro C.1 C.2.1
  have hr := B.returns
  have hlk := B.notSynchronized
  have hS : va_S (mc_A 152 w) s.heap s.heap [] := va_S.rf
  have hl := lv_entry ([.ref (w.2.2.1 144), .int v1]) (n := 2) (Nat.le_of_ble_eq_true rfl)
  rw [lg_entry_eq]
  generalize (lg_sl ([.ref (w.2.2.1 144), .int v1]) ++ List.replicate (2 - (lg_sl ([.ref (w.2.2.1 144), .int v1])).length) Slot.unset).toArray = ls at hl ⊢
  have hl : lv_has ls 2 [(0, .ref (w.2.2.1 144)), (1, .int v1)] := hl
  unfold mi_X8_secondsToShut at h
  refine lv_aload_n hx hb dX8_secondsToShut_0 rfl (lv_at hl 0 rfl) ?_
  refine mf_X8_19 C K hP kf_144 dX8_secondsToShut_1 ?_
  refine lv_aload_n hx hb dX8_secondsToShut_4 rfl (lv_at hl 0 rfl) ?_
  refine mf_X8_10 C K hP kf_144 dX8_secondsToShut_5 ?_
  obtain ⟨I1, e2, h⟩ := mc_ob_e h
  refine mg_Vv (As := [.ref (w.2.2.1 0)]) (rest := []) (ct_X5_copyFrom l (w := w) (I := I) (R := R) kf_36 kf_0 e2) C K hP hS hl.1 kf_36 (by decide) rfl rfl ml_X8_46 wy_X5_copyFrom wd_X5_copyFrom rfl rfl rfl ⟨Nat.le_of_ble_eq_true rfl, Nat.le_of_ble_eq_true rfl⟩ (Nat.le_of_ble_eq_true rfl) ⟨Nat.zero_le _, Nat.zero_le _⟩ dX8_secondsToShut_8 (fun H locs hP hS => ?_)
  refine lv_aload_n hx hb dX8_secondsToShut_11 rfl (lv_at hl 0 rfl) ?_
  refine mf_X8_19 C K hP kf_144 dX8_secondsToShut_12 ?_
  refine lv_iload_n hx hb dX8_secondsToShut_15 rfl (lv_at hl 1 rfl) ?_
  obtain ⟨I3, r4, e5, h⟩ := mc_ob2_e h
  refine mg_Vi (As := [.int v1]) (rest := []) (ct_X5_runUntilShut l (w := w) (I := I1) (R := R) kf_36 e5) C K hP hS hl.1 kf_36 (by decide) rfl rfl ml_X8_243 wy_X5_runUntilShut wd_X5_runUntilShut rfl rfl rfl ⟨Nat.le_of_ble_eq_true rfl, Nat.le_of_ble_eq_true rfl⟩ (Nat.le_of_ble_eq_true rfl) ⟨Nat.zero_le _, Nat.zero_le _⟩ dX8_secondsToShut_16 (fun H locs hP hS => ?_)
  cases h
  exact mt_i hC hr hlk K hP hS dX8_secondsToShut_19

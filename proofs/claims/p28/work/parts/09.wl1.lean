set_option maxHeartbeats 4000000 in
set_option maxRecDepth 100000 in
theorem ct_L_low (l : Launch) {w : mc_w} {I : Nat → Nat → Int32} {R : Nat → Nat → Option Nat} {v0 : Int32} {v1 : Int32} {rz : Int32} (h : mi_L_low v0 v1 = some rz) : Met l yL_low (Cond.code yL_low cL_low 2 (some .int) :: mc_big) ({ frames := 0, cells := 0, slots := 0, locals := 0 } : Room) (va_Pc [.int v0, .int v1] (mc_B mc_k 152 w I R)) (mc_Q (some (.int rz)) (mc_B mc_k 152 w I R) (mc_A 152 w)) 0 0 (mc_A 152 w) := by
  refine Met.ofW (cc := cL_low) (maxL := 2) (ret := (some .int)) (by decide) rfl ?_
  intro p e s m args below meth c s₁ B hml hv
  obtain ⟨rfl, hP, K⟩ := hv
  have hown : s.vm.findClass RL = some m.cls := findClass_of_methodNamed B.named
  have C : CallFix p m c cL_low 2 s _ mc_big RL := ⟨B.exec, B.bytes, hml, hown, fun w hw => atoms_spec B.pre w (List.mem_cons_of_mem _ hw)⟩
  have hx := C.1
  have hb := C.2.1
  have hC := And.intro C.1 C.2.1
  have hr := B.returns
  have hlk := B.notSynchronized
  have hS : va_S (mc_A 152 w) s.heap s.heap [] := va_S.rf
  have hl := lv_entry ([.int v0, .int v1]) (n := 2) (Nat.le_of_ble_eq_true rfl)
  rw [lg_entry_eq]
  generalize (lg_sl ([.int v0, .int v1]) ++ List.replicate (2 - (lg_sl ([.int v0, .int v1])).length) Slot.unset).toArray = ls at hl ⊢
  have hl : lv_has ls 2 [(0, .int v0), (1, .int v1)] := hl
  unfold mi_L_low at h
  refine lv_iload_n hx hb dL_low_0 rfl (lv_at hl 0 rfl) ?_
  refine lv_ldc hx hb C.2.2.2.1 (C.2.2.2.2 _ wk_L_9) dL_low_1 ?_
  refine lv_iand hx hb dL_low_3 ?_
  refine lv_iload_n hx hb dL_low_4 rfl (lv_at hl 1 rfl) ?_
  obtain ⟨g1, h⟩ := mc_gd h
  refine lv_irem hx hb dL_low_5 g1 ?_
  cases h
  exact mt_i hC hr hlk K hP hS dL_low_6
set_option maxHeartbeats 4000000 in
set_option maxRecDepth 100000 in
theorem bk_L_bottles_J475 {p : Program} {l : Launch} {e : Env} {s : State} {m : MethodId} {args : Array Value} {below : List Frame} {meth : Method} {c : Code} (C : CallFix p m c cL_bottles 13 s args mc_big RL) (hr : meth.sig.returnType = (some .boolean)) (hlk : meth.locks = false) {w : mc_w} (K : mc_K mc_k 152 w s) {I : Nat → Nat → Int32} {R : Nat → Nat → Option Nat} {F : Nat} {rz : Int32} {k24 : (Nat → Nat → Int32) → (Nat → Nat → Option Nat) → Int32 → Int32 → Int32 → Int32 → Int32 → Int32 → Int32 → Option (Int32)} (hk24 : ∀ (v1 : Int32) (v2 : Int32) (v3 : Int32) (v4 : Int32) (v5 : Int32) (v6 : Int32) (v7 : Int32), k24 I R v1 v2 v3 v4 v5 v6 v7 = some rz → ∀ {H : Heap} {locs : List Loc} {ls : Array Slot}, mc_P mc_k 152 w I R H → va_S (mc_A 152 w) s.heap H locs → lv_has ls 13 [(0, .ref (w.2.2.1 144)), (1, .int v1), (2, .int v2), (3, .int v3), (4, .int v4), (5, .int v5), (6, .int v6), (7, .int v7)] → W p l e ({ frames := 6, cells := 0, slots := 0, locals := 127 } : Room) s m args below meth c H locs 0 0 (MQ below (mc_Q (some (.int rz)) (fun t => mc_B mc_k 152 w I R t ∧ ¬ (rz ≠ 0 ∧ rz ≠ 1)) (mc_A 152 w)) args s 0 0 (mc_A 152 w)) (F0 m 24 ls [])) : ∀ (v1 : Int32) (v2 : Int32) (v3 : Int32) (v4 : Int32) (v5 : Int32) (v6 : Int32) (v7 : Int32) (s0 : Int32) (s1 : Int32), mi_L_bottles_J475 k24 F I R v1 v2 v3 v4 v5 v6 v7 s0 s1 = some rz → ∀ {H : Heap} {locs : List Loc} {ls : Array Slot}, mc_P mc_k 152 w I R H → va_S (mc_A 152 w) s.heap H locs → lv_has ls 13 [(0, .ref (w.2.2.1 144)), (1, .int v1), (2, .int v2), (3, .int v3), (4, .int v4), (5, .int v5), (6, .int v6), (7, .int v7)] → W p l e ({ frames := 6, cells := 0, slots := 0, locals := 127 } : Room) s m args below meth c H locs 0 0 (MQ below (mc_Q (some (.int rz)) (fun t => mc_B mc_k 152 w I R t ∧ ¬ (rz ≠ 0 ∧ rz ≠ 1)) (mc_A 152 w)) args s 0 0 (mc_A 152 w)) (F0 m 475 ls [.int s0, .int s1]) := by
  intro v1 v2 v3 v4 v5 v6 v7 s0 s1 h  H locs ls hP hS hl
  have hx := C.1
  have hb := C.2.1
  have hC := And.intro C.1 C.2.1
  unfold mi_L_bottles_J475 at h
  refine lv_icmp_eq (tgt := 480) hx hb dL_bottles_475 (by decide) (fun c86 => ?_) (fun c86 => ?_)
  · replace h := mc_it h c86
    obtain ⟨x87, ex87, h⟩ := mc_bn_e h
    refine lv_iinc (v := x87) (lv' := [(7, .int x87), (0, .ref (w.2.2.1 144)), (1, .int v1), (2, .int v2), (3, .int v3), (4, .int v4), (5, .int v5), (6, .int v6)]) hx hb dL_bottles_480 hl (k := 7) rfl (by rw [ex87]; rfl) (by decide) rfl (fun ls hl => ?_)
    refine lv_goto (tgt := 24) hx hb dL_bottles_483 (by decide) ?_
    exact hk24 v1 v2 v3 v4 v5 v6 x87 h  hP hS (lv_sub hl [1, 2, 3, 4, 5, 6, 7, 0] rfl)
  · replace h := mc_ie h c86
    refine lv_iconst (v := 0) hx hb dL_bottles_478 (by decide) ?_
    cases h
    exact mt_zX hC hr hlk K hP hS (by decide) (by decide) dL_bottles_479
set_option maxHeartbeats 4000000 in
set_option maxRecDepth 100000 in
theorem bk_L_bottles_J392 {p : Program} {l : Launch} {e : Env} {s : State} {m : MethodId} {args : Array Value} {below : List Frame} {meth : Method} {c : Code} (C : CallFix p m c cL_bottles 13 s args mc_big RL) (hr : meth.sig.returnType = (some .boolean)) (hlk : meth.locks = false) {w : mc_w} (K : mc_K mc_k 152 w s) {I : Nat → Nat → Int32} {R : Nat → Nat → Option Nat} {F : Nat} {rz : Int32} {k24 : (Nat → Nat → Int32) → (Nat → Nat → Option Nat) → Int32 → Int32 → Int32 → Int32 → Int32 → Int32 → Int32 → Option (Int32)} (hk24 : ∀ (v1 : Int32) (v2 : Int32) (v3 : Int32) (v4 : Int32) (v5 : Int32) (v6 : Int32) (v7 : Int32), k24 I R v1 v2 v3 v4 v5 v6 v7 = some rz → ∀ {H : Heap} {locs : List Loc} {ls : Array Slot}, mc_P mc_k 152 w I R H → va_S (mc_A 152 w) s.heap H locs → lv_has ls 13 [(0, .ref (w.2.2.1 144)), (1, .int v1), (2, .int v2), (3, .int v3), (4, .int v4), (5, .int v5), (6, .int v6), (7, .int v7)] → W p l e ({ frames := 6, cells := 0, slots := 0, locals := 127 } : Room) s m args below meth c H locs 0 0 (MQ below (mc_Q (some (.int rz)) (fun t => mc_B mc_k 152 w I R t ∧ ¬ (rz ≠ 0 ∧ rz ≠ 1)) (mc_A 152 w)) args s 0 0 (mc_A 152 w)) (F0 m 24 ls [])) : ∀ (v1 : Int32) (v2 : Int32) (v3 : Int32) (v4 : Int32) (v5 : Int32) (v6 : Int32) (v7 : Int32) (v11 : Int32) (v12 : Int32), mi_L_bottles_J392 k24 F I R v1 v2 v3 v4 v5 v6 v7 v11 v12 = some rz → ∀ {H : Heap} {locs : List Loc} {ls : Array Slot}, mc_P mc_k 152 w I R H → va_S (mc_A 152 w) s.heap H locs → lv_has ls 13 [(0, .ref (w.2.2.1 144)), (1, .int v1), (2, .int v2), (3, .int v3), (4, .int v4), (5, .int v5), (6, .int v6), (7, .int v7), (11, .int v11), (12, .int v12)] → W p l e ({ frames := 6, cells := 0, slots := 0, locals := 127 } : Room) s m args below meth c H locs 0 0 (MQ below (mc_Q (some (.int rz)) (fun t => mc_B mc_k 152 w I R t ∧ ¬ (rz ≠ 0 ∧ rz ≠ 1)) (mc_A 152 w)) args s 0 0 (mc_A 152 w)) (F0 m 392 ls []) := by
  intro v1 v2 v3 v4 v5 v6 v7 v11 v12 h  H locs ls hP hS hl
  have hx := C.1
  have hb := C.2.1
  have hC := And.intro C.1 C.2.1
  unfold mi_L_bottles_J392 at h
  refine lv_aload_n hx hb dL_bottles_392 rfl (lv_at hl 0 rfl) ?_
  refine lv_iload hx hb dL_bottles_393 (lv_at hl 7 rfl) ?_
  refine lv_bipush (v := 6) hx hb dL_bottles_395 (by decide) ?_
  obtain ⟨r67, e68, h⟩ := mc_ob_e h
  refine mg_Vi (As := [.int v7, .int 6]) (rest := []) (ct_X8_bottle l (w := w) (I := I) (R := R) e68) C K hP hS hl.1 kf_144 (by decide) rfl rfl ml_L_16 wy_X8_bottle wd_X8_bottle rfl rfl rfl ⟨Nat.le_of_ble_eq_true rfl, Nat.le_of_ble_eq_true rfl⟩ (Nat.le_of_ble_eq_true rfl) ⟨Nat.zero_le _, Nat.zero_le _⟩ dL_bottles_397 (fun H locs hP hS => ?_)
  refine lv_aload_n hx hb dL_bottles_400 rfl (lv_at hl 0 rfl) ?_
  refine lv_iconst (v := 0) hx hb dL_bottles_401 (by decide) ?_
  obtain ⟨r69, e70, h⟩ := mc_ob_e h
  refine mg_Vi (As := [.int 0]) (rest := [.int r67]) (ct_X8_count l (w := w) (I := I) (R := R) e70) C K hP hS hl.1 kf_144 (by decide) rfl rfl ml_L_10 wy_X8_count wd_X8_count rfl rfl rfl ⟨Nat.le_of_ble_eq_true rfl, Nat.le_of_ble_eq_true rfl⟩ (Nat.le_of_ble_eq_true rfl) ⟨Nat.zero_le _, Nat.zero_le _⟩ dL_bottles_402 (fun H locs hP hS => ?_)
  refine lv_icmp_gt (tgt := 478) hx hb dL_bottles_405 (by decide) (fun c71 => ?_) (fun c71 => ?_)
  · replace h := mc_it h c71
    refine lv_iconst (v := 0) hx hb dL_bottles_478 (by decide) ?_
    cases h
    exact mt_zX hC hr hlk K hP hS (by decide) (by decide) dL_bottles_479
  · replace h := mc_ie h c71
    refine lv_iload hx hb dL_bottles_408 (lv_at hl 8 rfl) ?_
    refine lv_bipush (v := 10) hx hb dL_bottles_410 (by decide) ?_
    refine lv_aload_n hx hb dL_bottles_412 rfl (lv_at hl 0 rfl) ?_
    refine lv_iload hx hb dL_bottles_413 (lv_at hl 7 rfl) ?_
    refine lv_bipush (v := 8) hx hb dL_bottles_415 (by decide) ?_
    obtain ⟨r72, e73, h⟩ := mc_ob_e h
    refine mg_Vi (As := [.int v7, .int 8]) (rest := [.int 10, .int v11]) (ct_X8_bottle l (w := w) (I := I) (R := R) e73) C K hP hS hl.1 kf_144 (by decide) rfl rfl ml_L_16 wy_X8_bottle wd_X8_bottle rfl rfl rfl ⟨Nat.le_of_ble_eq_true rfl, Nat.le_of_ble_eq_true rfl⟩ (Nat.le_of_ble_eq_true rfl) ⟨Nat.zero_le _, Nat.zero_le _⟩ dL_bottles_417 (fun H locs hP hS => ?_)
    refine lv_aload_n hx hb dL_bottles_420 rfl (lv_at hl 0 rfl) ?_
    refine lv_iload hx hb dL_bottles_421 (lv_at hl 7 rfl) ?_
    refine lv_bipush (v := 7) hx hb dL_bottles_423 (by decide) ?_
    obtain ⟨r74, e75, h⟩ := mc_ob_e h
    refine mg_Vi (As := [.int v7, .int 7]) (rest := [.int r72, .int 10, .int v11]) (ct_X8_bottle l (w := w) (I := I) (R := R) e75) C K hP hS hl.1 kf_144 (by decide) rfl rfl ml_L_16 wy_X8_bottle wd_X8_bottle rfl rfl rfl ⟨Nat.le_of_ble_eq_true rfl, Nat.le_of_ble_eq_true rfl⟩ (Nat.le_of_ble_eq_true rfl) ⟨Nat.zero_le _, Nat.zero_le _⟩ dL_bottles_425 (fun H locs hP hS => ?_)
    refine lv_isub hx hb dL_bottles_428 ?_
    refine lv_imul hx hb dL_bottles_429 ?_
    refine lv_icmp_ne (tgt := 478) hx hb dL_bottles_430 (by decide) (fun c76 => ?_) (fun c76 => ?_)
    · replace h := mc_ie h c76
      refine lv_iconst (v := 0) hx hb dL_bottles_478 (by decide) ?_
      cases h
      exact mt_zX hC hr hlk K hP hS (by decide) (by decide) dL_bottles_479
    · replace h := mc_it h c76
      refine lv_iload hx hb dL_bottles_433 (lv_at hl 8 rfl) ?_
      refine lv_if_lt (tgt := 478) hx hb dL_bottles_435 (by decide) (fun c77 => ?_) (fun c77 => ?_)
      · replace h := mc_it h c77
        refine lv_iconst (v := 0) hx hb dL_bottles_478 (by decide) ?_
        cases h
        exact mt_zX hC hr hlk K hP hS (by decide) (by decide) dL_bottles_479
      · replace h := mc_ie h c77
        refine lv_iload hx hb dL_bottles_438 (lv_at hl 8 rfl) ?_
        refine lv_aload_n hx hb dL_bottles_440 rfl (lv_at hl 0 rfl) ?_
        refine lv_iload hx hb dL_bottles_441 (lv_at hl 7 rfl) ?_
        refine lv_bipush (v := 11) hx hb dL_bottles_443 (by decide) ?_
        obtain ⟨r78, e79, h⟩ := mc_ob_e h
        refine mg_Vi (As := [.int v7, .int 11]) (rest := [.int v11]) (ct_X8_bottle l (w := w) (I := I) (R := R) e79) C K hP hS hl.1 kf_144 (by decide) rfl rfl ml_L_16 wy_X8_bottle wd_X8_bottle rfl rfl rfl ⟨Nat.le_of_ble_eq_true rfl, Nat.le_of_ble_eq_true rfl⟩ (Nat.le_of_ble_eq_true rfl) ⟨Nat.zero_le _, Nat.zero_le _⟩ dL_bottles_445 (fun H locs hP hS => ?_)
        refine lv_icmp_gt (tgt := 478) hx hb dL_bottles_448 (by decide) (fun c80 => ?_) (fun c80 => ?_)
        · replace h := mc_it h c80
          refine lv_iconst (v := 0) hx hb dL_bottles_478 (by decide) ?_
          cases h
          exact mt_zX hC hr hlk K hP hS (by decide) (by decide) dL_bottles_479
        · replace h := mc_ie h c80
          refine lv_aload_n hx hb dL_bottles_451 rfl (lv_at hl 0 rfl) ?_
          refine lv_iload hx hb dL_bottles_452 (lv_at hl 7 rfl) ?_
          refine lv_bipush (v := 12) hx hb dL_bottles_454 (by decide) ?_
          obtain ⟨r81, e82, h⟩ := mc_ob_e h
          refine mg_Vi (As := [.int v7, .int 12]) (rest := []) (ct_X8_bottle l (w := w) (I := I) (R := R) e82) C K hP hS hl.1 kf_144 (by decide) rfl rfl ml_L_16 wy_X8_bottle wd_X8_bottle rfl rfl rfl ⟨Nat.le_of_ble_eq_true rfl, Nat.le_of_ble_eq_true rfl⟩ (Nat.le_of_ble_eq_true rfl) ⟨Nat.zero_le _, Nat.zero_le _⟩ dL_bottles_456 (fun H locs hP hS => ?_)
          refine lv_iload hx hb dL_bottles_459 (lv_at hl 9 rfl) ?_
          refine lv_aload_n hx hb dL_bottles_461 rfl (lv_at hl 0 rfl) ?_
          refine lv_bipush (v := 15) hx hb dL_bottles_462 (by decide) ?_
          obtain ⟨r83, e84, h⟩ := mc_ob_e h
          refine mg_Vi (As := [.int 15]) (rest := [.int v12, .int r81]) (ct_X8_count l (w := w) (I := I) (R := R) e84) C K hP hS hl.1 kf_144 (by decide) rfl rfl ml_L_10 wy_X8_count wd_X8_count rfl rfl rfl ⟨Nat.le_of_ble_eq_true rfl, Nat.le_of_ble_eq_true rfl⟩ (Nat.le_of_ble_eq_true rfl) ⟨Nat.zero_le _, Nat.zero_le _⟩ dL_bottles_464 (fun H locs hP hS => ?_)
          refine lv_icmp_le (tgt := 474) hx hb dL_bottles_467 (by decide) (fun c85 => ?_) (fun c85 => ?_)
          · replace h := mc_it h c85
            refine lv_iconst (v := 0) hx hb dL_bottles_474 (by decide) ?_
            exact bk_L_bottles_J475 C hr hlk K hk24 v1 v2 v3 v4 v5 v6 v7 0 r81 h  hP hS (lv_sub hl [0, 1, 2, 3, 4, 5, 6, 7] rfl)
          · replace h := mc_ie h c85
            refine lv_iconst (v := 1) hx hb dL_bottles_470 (by decide) ?_
            refine lv_goto (tgt := 475) hx hb dL_bottles_471 (by decide) ?_
            exact bk_L_bottles_J475 C hr hlk K hk24 v1 v2 v3 v4 v5 v6 v7 1 r81 h  hP hS (lv_sub hl [0, 1, 2, 3, 4, 5, 6, 7] rfl)
set_option maxHeartbeats 4000000 in
set_option maxRecDepth 100000 in
theorem bk_L_bottles_J348 {p : Program} {l : Launch} {e : Env} {s : State} {m : MethodId} {args : Array Value} {below : List Frame} {meth : Method} {c : Code} (C : CallFix p m c cL_bottles 13 s args mc_big RL) (hr : meth.sig.returnType = (some .boolean)) (hlk : meth.locks = false) {w : mc_w} (K : mc_K mc_k 152 w s) {I : Nat → Nat → Int32} {R : Nat → Nat → Option Nat} {F : Nat} {rz : Int32} {k24 : (Nat → Nat → Int32) → (Nat → Nat → Option Nat) → Int32 → Int32 → Int32 → Int32 → Int32 → Int32 → Int32 → Option (Int32)} (hk24 : ∀ (v1 : Int32) (v2 : Int32) (v3 : Int32) (v4 : Int32) (v5 : Int32) (v6 : Int32) (v7 : Int32), k24 I R v1 v2 v3 v4 v5 v6 v7 = some rz → ∀ {H : Heap} {locs : List Loc} {ls : Array Slot}, mc_P mc_k 152 w I R H → va_S (mc_A 152 w) s.heap H locs → lv_has ls 13 [(0, .ref (w.2.2.1 144)), (1, .int v1), (2, .int v2), (3, .int v3), (4, .int v4), (5, .int v5), (6, .int v6), (7, .int v7)] → W p l e ({ frames := 6, cells := 0, slots := 0, locals := 127 } : Room) s m args below meth c H locs 0 0 (MQ below (mc_Q (some (.int rz)) (fun t => mc_B mc_k 152 w I R t ∧ ¬ (rz ≠ 0 ∧ rz ≠ 1)) (mc_A 152 w)) args s 0 0 (mc_A 152 w)) (F0 m 24 ls [])) : ∀ (v1 : Int32) (v2 : Int32) (v3 : Int32) (v4 : Int32) (v5 : Int32) (v7 : Int32) (v11 : Int32) (v12 : Int32) (s0 : Int32), mi_L_bottles_J348 k24 F I R v1 v2 v3 v4 v5 v7 v11 v12 s0 = some rz → ∀ {H : Heap} {locs : List Loc} {ls : Array Slot}, mc_P mc_k 152 w I R H → va_S (mc_A 152 w) s.heap H locs → lv_has ls 13 [(0, .ref (w.2.2.1 144)), (1, .int v1), (2, .int v2), (3, .int v3), (4, .int v4), (5, .int v5), (7, .int v7), (11, .int v11), (12, .int v12)] → W p l e ({ frames := 6, cells := 0, slots := 0, locals := 127 } : Room) s m args below meth c H locs 0 0 (MQ below (mc_Q (some (.int rz)) (fun t => mc_B mc_k 152 w I R t ∧ ¬ (rz ≠ 0 ∧ rz ≠ 1)) (mc_A 152 w)) args s 0 0 (mc_A 152 w)) (F0 m 348 ls [.int s0]) := by
  intro v1 v2 v3 v4 v5 v7 v11 v12 s0 h  H locs ls hP hS hl
  have hx := C.1
  have hb := C.2.1
  have hC := And.intro C.1 C.2.1
  unfold mi_L_bottles_J348 at h
  refine lv_istore (i := 6) (lv' := [(6, .int s0), (0, .ref (w.2.2.1 144)), (1, .int v1), (2, .int v2), (3, .int v3), (4, .int v4), (5, .int v5), (7, .int v7), (11, .int v11), (12, .int v12)]) hx hb dL_bottles_348 hl (by decide) rfl (fun ls hl => ?_)
  refine lv_aload_n hx hb dL_bottles_350 rfl (lv_at hl 1 rfl) ?_
  refine lv_iload hx hb dL_bottles_351 (lv_at hl 7 rfl) ?_
  refine lv_iconst (v := 5) hx hb dL_bottles_353 (by decide) ?_
  obtain ⟨r59, e60, h⟩ := mc_ob_e h
  refine mg_Vi (As := [.int v7, .int 5]) (rest := []) (ct_X8_bottle l (w := w) (I := I) (R := R) e60) C K hP hS hl.1 kf_144 (by decide) rfl rfl ml_L_16 wy_X8_bottle wd_X8_bottle rfl rfl rfl ⟨Nat.le_of_ble_eq_true rfl, Nat.le_of_ble_eq_true rfl⟩ (Nat.le_of_ble_eq_true rfl) ⟨Nat.zero_le _, Nat.zero_le _⟩ dL_bottles_354 (fun H locs hP hS => ?_)
  refine lv_aload_n hx hb dL_bottles_357 rfl (lv_at hl 1 rfl) ?_
  refine lv_iload hx hb dL_bottles_358 (lv_at hl 7 rfl) ?_
  refine lv_bipush (v := 13) hx hb dL_bottles_360 (by decide) ?_
  obtain ⟨r61, e62, h⟩ := mc_ob_e h
  refine mg_Vi (As := [.int v7, .int 13]) (rest := [.int r59]) (ct_X8_bottle l (w := w) (I := I) (R := R) e62) C K hP hS hl.1 kf_144 (by decide) rfl rfl ml_L_16 wy_X8_bottle wd_X8_bottle rfl rfl rfl ⟨Nat.le_of_ble_eq_true rfl, Nat.le_of_ble_eq_true rfl⟩ (Nat.le_of_ble_eq_true rfl) ⟨Nat.zero_le _, Nat.zero_le _⟩ dL_bottles_362 (fun H locs hP hS => ?_)
  refine lv_iadd hx hb dL_bottles_365 ?_
  refine lv_iconst (v := 1) hx hb dL_bottles_366 (by decide) ?_
  refine lv_icmp_lt (tgt := 478) hx hb dL_bottles_367 (by decide) (fun c63 => ?_) (fun c63 => ?_)
  · replace h := mc_it h c63
    refine lv_iconst (v := 0) hx hb dL_bottles_478 (by decide) ?_
    cases h
    exact mt_zX hC hr hlk K hP hS (by decide) (by decide) dL_bottles_479
  · replace h := mc_ie h c63
    refine lv_aload_n hx hb dL_bottles_370 rfl (lv_at hl 1 rfl) ?_
    refine lv_iload hx hb dL_bottles_371 (lv_at hl 7 rfl) ?_
    refine lv_iconst (v := 4) hx hb dL_bottles_373 (by decide) ?_
    obtain ⟨r64, e65, h⟩ := mc_ob_e h
    refine mg_Vi (As := [.int v7, .int 4]) (rest := []) (ct_X8_bottle l (w := w) (I := I) (R := R) e65) C K hP hS hl.1 kf_144 (by decide) rfl rfl ml_L_16 wy_X8_bottle wd_X8_bottle rfl rfl rfl ⟨Nat.le_of_ble_eq_true rfl, Nat.le_of_ble_eq_true rfl⟩ (Nat.le_of_ble_eq_true rfl) ⟨Nat.zero_le _, Nat.zero_le _⟩ dL_bottles_374 (fun H locs hP hS => ?_)
    refine lv_iconst (v := 1) hx hb dL_bottles_377 (by decide) ?_
    refine lv_icmp_ne (tgt := 392) hx hb dL_bottles_378 (by decide) (fun c66 => ?_) (fun c66 => ?_)
    · replace h := mc_ie h c66
      exact bk_L_bottles_J392 C hr hlk K hk24 v1 v2 v3 v4 v5 s0 v7 v11 v12 h  hP hS (lv_sub hl [1, 2, 3, 4, 5, 6, 0, 7, 8, 9] rfl)
    · replace h := mc_it h c66
      refine lv_aload_n hx hb dL_bottles_381 rfl (lv_at hl 1 rfl) ?_
      refine lv_iload hx hb dL_bottles_382 (lv_at hl 7 rfl) ?_
      refine lv_bipush (v := 13) hx hb dL_bottles_384 (by decide) ?_
      obtain ⟨r88, e89, h⟩ := mc_ob_e h
      refine mg_Vi (As := [.int v7, .int 13]) (rest := []) (ct_X8_bottle l (w := w) (I := I) (R := R) e89) C K hP hS hl.1 kf_144 (by decide) rfl rfl ml_L_16 wy_X8_bottle wd_X8_bottle rfl rfl rfl ⟨Nat.le_of_ble_eq_true rfl, Nat.le_of_ble_eq_true rfl⟩ (Nat.le_of_ble_eq_true rfl) ⟨Nat.zero_le _, Nat.zero_le _⟩ dL_bottles_386 (fun H locs hP hS => ?_)
      refine lv_if_eq (tgt := 478) hx hb dL_bottles_389 (by decide) (fun c90 => ?_) (fun c90 => ?_)
      · replace h := mc_it h c90
        refine lv_iconst (v := 0) hx hb dL_bottles_478 (by decide) ?_
        cases h
        exact mt_zX hC hr hlk K hP hS (by decide) (by decide) dL_bottles_479
      · replace h := mc_ie h c90
        exact bk_L_bottles_J392 C hr hlk K hk24 v1 v2 v3 v4 v5 s0 v7 v11 v12 h  hP hS (lv_sub hl [1, 2, 3, 4, 5, 6, 0, 7, 8, 9] rfl)
set_option maxHeartbeats 4000000 in
set_option maxRecDepth 100000 in
theorem bk_L_bottles_J332 {p : Program} {l : Launch} {e : Env} {s : State} {m : MethodId} {args : Array Value} {below : List Frame} {meth : Method} {c : Code} (C : CallFix p m c cL_bottles 13 s args mc_big RL) (hr : meth.sig.returnType = (some .boolean)) (hlk : meth.locks = false) {w : mc_w} (K : mc_K mc_k 152 w s) {I : Nat → Nat → Int32} {R : Nat → Nat → Option Nat} {F : Nat} {rz : Int32} {k24 : (Nat → Nat → Int32) → (Nat → Nat → Option Nat) → Int32 → Int32 → Int32 → Int32 → Int32 → Int32 → Int32 → Option (Int32)} (hk24 : ∀ (v1 : Int32) (v2 : Int32) (v3 : Int32) (v4 : Int32) (v5 : Int32) (v6 : Int32) (v7 : Int32), k24 I R v1 v2 v3 v4 v5 v6 v7 = some rz → ∀ {H : Heap} {locs : List Loc} {ls : Array Slot}, mc_P mc_k 152 w I R H → va_S (mc_A 152 w) s.heap H locs → lv_has ls 13 [(0, .ref (w.2.2.1 144)), (1, .int v1), (2, .int v2), (3, .int v3), (4, .int v4), (5, .int v5), (6, .int v6), (7, .int v7)] → W p l e ({ frames := 6, cells := 0, slots := 0, locals := 127 } : Room) s m args below meth c H locs 0 0 (MQ below (mc_Q (some (.int rz)) (fun t => mc_B mc_k 152 w I R t ∧ ¬ (rz ≠ 0 ∧ rz ≠ 1)) (mc_A 152 w)) args s 0 0 (mc_A 152 w)) (F0 m 24 ls [])) : ∀ (v1 : Int32) (v2 : Int32) (v3 : Int32) (v4 : Int32) (v6 : Int32) (v7 : Int32) (v11 : Int32) (v12 : Int32) (s0 : Int32), mi_L_bottles_J332 k24 F I R v1 v2 v3 v4 v6 v7 v11 v12 s0 = some rz → ∀ {H : Heap} {locs : List Loc} {ls : Array Slot}, mc_P mc_k 152 w I R H → va_S (mc_A 152 w) s.heap H locs → lv_has ls 13 [(0, .ref (w.2.2.1 144)), (1, .int v1), (2, .int v2), (3, .int v3), (4, .int v4), (6, .int v6), (7, .int v7), (11, .int v11), (12, .int v12)] → W p l e ({ frames := 6, cells := 0, slots := 0, locals := 127 } : Room) s m args below meth c H locs 0 0 (MQ below (mc_Q (some (.int rz)) (fun t => mc_B mc_k 152 w I R t ∧ ¬ (rz ≠ 0 ∧ rz ≠ 1)) (mc_A 152 w)) args s 0 0 (mc_A 152 w)) (F0 m 332 ls [.int s0]) := by
  intro v1 v2 v3 v4 v6 v7 v11 v12 s0 h  H locs ls hP hS hl
  have hx := C.1
  have hb := C.2.1
  have hC := And.intro C.1 C.2.1
  unfold mi_L_bottles_J332 at h
  refine lv_istore (i := 5) (lv' := [(5, .int s0), (0, .ref (w.2.2.1 144)), (1, .int v1), (2, .int v2), (3, .int v3), (4, .int v4), (6, .int v6), (7, .int v7), (11, .int v11), (12, .int v12)]) hx hb dL_bottles_332 hl (by decide) rfl (fun ls hl => ?_)
  refine lv_iload hx hb dL_bottles_334 (lv_at hl 9 rfl) ?_
  refine lv_iload hx hb dL_bottles_336 (lv_at hl 6 rfl) ?_
  refine lv_icmp_le (tgt := 346) hx hb dL_bottles_338 (by decide) (fun c58 => ?_) (fun c58 => ?_)
  · replace h := mc_it h c58
    refine lv_iload hx hb dL_bottles_346 (lv_at hl 6 rfl) ?_
    exact bk_L_bottles_J348 C hr hlk K hk24 v1 v2 v3 v4 s0 v7 v11 v12 v6 h  hP hS (lv_sub hl [1, 2, 3, 4, 5, 0, 7, 8, 9] rfl)
  · replace h := mc_ie h c58
    refine lv_iload hx hb dL_bottles_341 (lv_at hl 9 rfl) ?_
    refine lv_goto (tgt := 348) hx hb dL_bottles_343 (by decide) ?_
    exact bk_L_bottles_J348 C hr hlk K hk24 v1 v2 v3 v4 s0 v7 v11 v12 v12 h  hP hS (lv_sub hl [1, 2, 3, 4, 5, 0, 7, 8, 9] rfl)
set_option maxHeartbeats 4000000 in
set_option maxRecDepth 100000 in
theorem bk_L_bottles_J303 {p : Program} {l : Launch} {e : Env} {s : State} {m : MethodId} {args : Array Value} {below : List Frame} {meth : Method} {c : Code} (C : CallFix p m c cL_bottles 13 s args mc_big RL) (hr : meth.sig.returnType = (some .boolean)) (hlk : meth.locks = false) {w : mc_w} (K : mc_K mc_k 152 w s) {I : Nat → Nat → Int32} {R : Nat → Nat → Option Nat} {F : Nat} {rz : Int32} {k24 : (Nat → Nat → Int32) → (Nat → Nat → Option Nat) → Int32 → Int32 → Int32 → Int32 → Int32 → Int32 → Int32 → Option (Int32)} (hk24 : ∀ (v1 : Int32) (v2 : Int32) (v3 : Int32) (v4 : Int32) (v5 : Int32) (v6 : Int32) (v7 : Int32), k24 I R v1 v2 v3 v4 v5 v6 v7 = some rz → ∀ {H : Heap} {locs : List Loc} {ls : Array Slot}, mc_P mc_k 152 w I R H → va_S (mc_A 152 w) s.heap H locs → lv_has ls 13 [(0, .ref (w.2.2.1 144)), (1, .int v1), (2, .int v2), (3, .int v3), (4, .int v4), (5, .int v5), (6, .int v6), (7, .int v7)] → W p l e ({ frames := 6, cells := 0, slots := 0, locals := 127 } : Room) s m args below meth c H locs 0 0 (MQ below (mc_Q (some (.int rz)) (fun t => mc_B mc_k 152 w I R t ∧ ¬ (rz ≠ 0 ∧ rz ≠ 1)) (mc_A 152 w)) args s 0 0 (mc_A 152 w)) (F0 m 24 ls [])) : ∀ (v1 : Int32) (v2 : Int32) (v3 : Int32) (v4 : Int32) (v5 : Int32) (v6 : Int32) (v7 : Int32) (v11 : Int32) (s0 : Int32), mi_L_bottles_J303 k24 F I R v1 v2 v3 v4 v5 v6 v7 v11 s0 = some rz → ∀ {H : Heap} {locs : List Loc} {ls : Array Slot}, mc_P mc_k 152 w I R H → va_S (mc_A 152 w) s.heap H locs → lv_has ls 13 [(0, .ref (w.2.2.1 144)), (1, .int v1), (2, .int v2), (3, .int v3), (4, .int v4), (5, .int v5), (6, .int v6), (7, .int v7), (11, .int v11)] → W p l e ({ frames := 6, cells := 0, slots := 0, locals := 127 } : Room) s m args below meth c H locs 0 0 (MQ below (mc_Q (some (.int rz)) (fun t => mc_B mc_k 152 w I R t ∧ ¬ (rz ≠ 0 ∧ rz ≠ 1)) (mc_A 152 w)) args s 0 0 (mc_A 152 w)) (F0 m 303 ls [.int s0]) := by
  intro v1 v2 v3 v4 v5 v6 v7 v11 s0 h  H locs ls hP hS hl
  have hx := C.1
  have hb := C.2.1
  have hC := And.intro C.1 C.2.1
  unfold mi_L_bottles_J303 at h
  refine lv_istore (i := 12) (lv' := [(12, .int s0), (0, .ref (w.2.2.1 144)), (1, .int v1), (2, .int v2), (3, .int v3), (4, .int v4), (5, .int v5), (6, .int v6), (7, .int v7), (11, .int v11)]) hx hb dL_bottles_303 hl (by decide) rfl (fun ls hl => ?_)
  refine lv_iload hx hb dL_bottles_305 (lv_at hl 5 rfl) ?_
  refine lv_aload_n hx hb dL_bottles_307 rfl (lv_at hl 1 rfl) ?_
  refine lv_iload hx hb dL_bottles_308 (lv_at hl 8 rfl) ?_
  refine lv_bipush (v := 12) hx hb dL_bottles_310 (by decide) ?_
  obtain ⟨r54, e55, h⟩ := mc_ob_e h
  refine mg_Vi (As := [.int v7, .int 12]) (rest := [.int v4]) (ct_X8_bottle l (w := w) (I := I) (R := R) e55) C K hP hS hl.1 kf_144 (by decide) rfl rfl ml_L_16 wy_X8_bottle wd_X8_bottle rfl rfl rfl ⟨Nat.le_of_ble_eq_true rfl, Nat.le_of_ble_eq_true rfl⟩ (Nat.le_of_ble_eq_true rfl) ⟨Nat.zero_le _, Nat.zero_le _⟩ dL_bottles_312 (fun H locs hP hS => ?_)
  refine lv_iadd hx hb dL_bottles_315 ?_
  obtain ⟨x56, ex56, h⟩ := mc_bn_e h
  refine mv_top ex56 ?_
  refine lv_istore (i := 4) (lv' := [(4, .int x56), (12, .int s0), (0, .ref (w.2.2.1 144)), (1, .int v1), (2, .int v2), (3, .int v3), (5, .int v5), (6, .int v6), (7, .int v7), (11, .int v11)]) hx hb dL_bottles_316 hl (by decide) rfl (fun ls hl => ?_)
  refine lv_iload hx hb dL_bottles_318 (lv_at hl 1 rfl) ?_
  refine lv_iload hx hb dL_bottles_320 (lv_at hl 7 rfl) ?_
  refine lv_icmp_le (tgt := 330) hx hb dL_bottles_322 (by decide) (fun c57 => ?_) (fun c57 => ?_)
  · replace h := mc_it h c57
    refine lv_iload hx hb dL_bottles_330 (lv_at hl 6 rfl) ?_
    exact bk_L_bottles_J332 C hr hlk K hk24 v1 v2 v3 x56 v6 v7 v11 s0 v5 h  hP hS (lv_sub hl [2, 3, 4, 5, 0, 7, 8, 9, 1] rfl)
  · replace h := mc_ie h c57
    refine lv_iload hx hb dL_bottles_325 (lv_at hl 8 rfl) ?_
    refine lv_goto (tgt := 332) hx hb dL_bottles_327 (by decide) ?_
    exact bk_L_bottles_J332 C hr hlk K hk24 v1 v2 v3 x56 v6 v7 v11 s0 v7 h  hP hS (lv_sub hl [2, 3, 4, 5, 0, 7, 8, 9, 1] rfl)
set_option maxHeartbeats 4000000 in
set_option maxRecDepth 100000 in
theorem bk_L_bottles_J239 {p : Program} {l : Launch} {e : Env} {s : State} {m : MethodId} {args : Array Value} {below : List Frame} {meth : Method} {c : Code} (C : CallFix p m c cL_bottles 13 s args mc_big RL) (hr : meth.sig.returnType = (some .boolean)) (hlk : meth.locks = false) {w : mc_w} (K : mc_K mc_k 152 w s) {I : Nat → Nat → Int32} {R : Nat → Nat → Option Nat} {F : Nat} {rz : Int32} {k24 : (Nat → Nat → Int32) → (Nat → Nat → Option Nat) → Int32 → Int32 → Int32 → Int32 → Int32 → Int32 → Int32 → Option (Int32)} (hk24 : ∀ (v1 : Int32) (v2 : Int32) (v3 : Int32) (v4 : Int32) (v5 : Int32) (v6 : Int32) (v7 : Int32), k24 I R v1 v2 v3 v4 v5 v6 v7 = some rz → ∀ {H : Heap} {locs : List Loc} {ls : Array Slot}, mc_P mc_k 152 w I R H → va_S (mc_A 152 w) s.heap H locs → lv_has ls 13 [(0, .ref (w.2.2.1 144)), (1, .int v1), (2, .int v2), (3, .int v3), (4, .int v4), (5, .int v5), (6, .int v6), (7, .int v7)] → W p l e ({ frames := 6, cells := 0, slots := 0, locals := 127 } : Room) s m args below meth c H locs 0 0 (MQ below (mc_Q (some (.int rz)) (fun t => mc_B mc_k 152 w I R t ∧ ¬ (rz ≠ 0 ∧ rz ≠ 1)) (mc_A 152 w)) args s 0 0 (mc_A 152 w)) (F0 m 24 ls [])) {k211 : (Nat → Nat → Int32) → (Nat → Nat → Option Nat) → Int32 → Int32 → Int32 → Int32 → Int32 → Int32 → Int32 → Int32 → Int32 → Option (Int32)} (hk211 : ∀ (v1 : Int32) (v2 : Int32) (v3 : Int32) (v4 : Int32) (v5 : Int32) (v6 : Int32) (v7 : Int32) (v10 : Int32) (v11 : Int32), k211 I R v1 v2 v3 v4 v5 v6 v7 v10 v11 = some rz → ∀ {H : Heap} {locs : List Loc} {ls : Array Slot}, mc_P mc_k 152 w I R H → va_S (mc_A 152 w) s.heap H locs → lv_has ls 13 [(0, .ref (w.2.2.1 144)), (1, .int v1), (2, .int v2), (3, .int v3), (4, .int v4), (5, .int v5), (6, .int v6), (7, .int v7), (10, .int v10), (11, .int v11)] → W p l e ({ frames := 6, cells := 0, slots := 0, locals := 127 } : Room) s m args below meth c H locs 0 0 (MQ below (mc_Q (some (.int rz)) (fun t => mc_B mc_k 152 w I R t ∧ ¬ (rz ≠ 0 ∧ rz ≠ 1)) (mc_A 152 w)) args s 0 0 (mc_A 152 w)) (F0 m 211 ls [])) : ∀ (v1 : Int32) (v2 : Int32) (v3 : Int32) (v4 : Int32) (v5 : Int32) (v6 : Int32) (v7 : Int32) (v10 : Int32) (v11 : Int32) (s0 : Int32) (s1 : Int32), mi_L_bottles_J239 k24 k211 F I R v1 v2 v3 v4 v5 v6 v7 v10 v11 s0 s1 = some rz → ∀ {H : Heap} {locs : List Loc} {ls : Array Slot}, mc_P mc_k 152 w I R H → va_S (mc_A 152 w) s.heap H locs → lv_has ls 13 [(0, .ref (w.2.2.1 144)), (1, .int v1), (2, .int v2), (3, .int v3), (4, .int v4), (5, .int v5), (6, .int v6), (7, .int v7), (10, .int v10), (11, .int v11)] → W p l e ({ frames := 6, cells := 0, slots := 0, locals := 127 } : Room) s m args below meth c H locs 0 0 (MQ below (mc_Q (some (.int rz)) (fun t => mc_B mc_k 152 w I R t ∧ ¬ (rz ≠ 0 ∧ rz ≠ 1)) (mc_A 152 w)) args s 0 0 (mc_A 152 w)) (F0 m 239 ls [.int s0, .int s1]) := by
  intro v1 v2 v3 v4 v5 v6 v7 v10 v11 s0 s1 h  H locs ls hP hS hl
  have hx := C.1
  have hb := C.2.1
  have hC := And.intro C.1 C.2.1
  unfold mi_L_bottles_J239 at h
  refine lv_icmp_ne (tgt := 244) hx hb dL_bottles_239 (by decide) (fun c96 => ?_) (fun c96 => ?_)
  · replace h := mc_ie h c96
    obtain ⟨x97, ex97, h⟩ := mc_bn_e h
    refine lv_iinc (v := x97) (lv' := [(11, .int x97), (0, .ref (w.2.2.1 144)), (1, .int v1), (2, .int v2), (3, .int v3), (4, .int v4), (5, .int v5), (6, .int v6), (7, .int v7), (10, .int v10)]) hx hb dL_bottles_244 hl (k := 9) rfl (by rw [ex97]; rfl) (by decide) rfl (fun ls hl => ?_)
    refine lv_goto (tgt := 211) hx hb dL_bottles_247 (by decide) ?_
    exact hk211 v1 v2 v3 v4 v5 v6 v7 v10 x97 h  hP hS (lv_sub hl [1, 2, 3, 4, 5, 6, 7, 8, 9, 0] rfl)
  · replace h := mc_it h c96
    refine lv_iconst (v := 0) hx hb dL_bottles_242 (by decide) ?_
    cases h
    exact mt_zX hC hr hlk K hP hS (by decide) (by decide) dL_bottles_243
set_option maxHeartbeats 4000000 in
set_option maxRecDepth 100000 in
theorem bk_L_bottles_B211 {p : Program} {l : Launch} {e : Env} {s : State} {m : MethodId} {args : Array Value} {below : List Frame} {meth : Method} {c : Code} (C : CallFix p m c cL_bottles 13 s args mc_big RL) (hr : meth.sig.returnType = (some .boolean)) (hlk : meth.locks = false) {w : mc_w} (K : mc_K mc_k 152 w s) {I : Nat → Nat → Int32} {R : Nat → Nat → Option Nat} {F : Nat} {rz : Int32} {k24 : (Nat → Nat → Int32) → (Nat → Nat → Option Nat) → Int32 → Int32 → Int32 → Int32 → Int32 → Int32 → Int32 → Option (Int32)} (hk24 : ∀ (v1 : Int32) (v2 : Int32) (v3 : Int32) (v4 : Int32) (v5 : Int32) (v6 : Int32) (v7 : Int32), k24 I R v1 v2 v3 v4 v5 v6 v7 = some rz → ∀ {H : Heap} {locs : List Loc} {ls : Array Slot}, mc_P mc_k 152 w I R H → va_S (mc_A 152 w) s.heap H locs → lv_has ls 13 [(0, .ref (w.2.2.1 144)), (1, .int v1), (2, .int v2), (3, .int v3), (4, .int v4), (5, .int v5), (6, .int v6), (7, .int v7)] → W p l e ({ frames := 6, cells := 0, slots := 0, locals := 127 } : Room) s m args below meth c H locs 0 0 (MQ below (mc_Q (some (.int rz)) (fun t => mc_B mc_k 152 w I R t ∧ ¬ (rz ≠ 0 ∧ rz ≠ 1)) (mc_A 152 w)) args s 0 0 (mc_A 152 w)) (F0 m 24 ls [])) {k211 : (Nat → Nat → Int32) → (Nat → Nat → Option Nat) → Int32 → Int32 → Int32 → Int32 → Int32 → Int32 → Int32 → Int32 → Int32 → Option (Int32)} (hk211 : ∀ (v1 : Int32) (v2 : Int32) (v3 : Int32) (v4 : Int32) (v5 : Int32) (v6 : Int32) (v7 : Int32) (v10 : Int32) (v11 : Int32), k211 I R v1 v2 v3 v4 v5 v6 v7 v10 v11 = some rz → ∀ {H : Heap} {locs : List Loc} {ls : Array Slot}, mc_P mc_k 152 w I R H → va_S (mc_A 152 w) s.heap H locs → lv_has ls 13 [(0, .ref (w.2.2.1 144)), (1, .int v1), (2, .int v2), (3, .int v3), (4, .int v4), (5, .int v5), (6, .int v6), (7, .int v7), (10, .int v10), (11, .int v11)] → W p l e ({ frames := 6, cells := 0, slots := 0, locals := 127 } : Room) s m args below meth c H locs 0 0 (MQ below (mc_Q (some (.int rz)) (fun t => mc_B mc_k 152 w I R t ∧ ¬ (rz ≠ 0 ∧ rz ≠ 1)) (mc_A 152 w)) args s 0 0 (mc_A 152 w)) (F0 m 211 ls [])) : ∀ (v1 : Int32) (v2 : Int32) (v3 : Int32) (v4 : Int32) (v5 : Int32) (v6 : Int32) (v7 : Int32) (v10 : Int32) (v11 : Int32), mi_L_bottles_B211 k24 k211 F I R v1 v2 v3 v4 v5 v6 v7 v10 v11 = some rz → ∀ {H : Heap} {locs : List Loc} {ls : Array Slot}, mc_P mc_k 152 w I R H → va_S (mc_A 152 w) s.heap H locs → lv_has ls 13 [(0, .ref (w.2.2.1 144)), (1, .int v1), (2, .int v2), (3, .int v3), (4, .int v4), (5, .int v5), (6, .int v6), (7, .int v7), (10, .int v10), (11, .int v11)] → W p l e ({ frames := 6, cells := 0, slots := 0, locals := 127 } : Room) s m args below meth c H locs 0 0 (MQ below (mc_Q (some (.int rz)) (fun t => mc_B mc_k 152 w I R t ∧ ¬ (rz ≠ 0 ∧ rz ≠ 1)) (mc_A 152 w)) args s 0 0 (mc_A 152 w)) (F0 m 211 ls []) := by
  intro v1 v2 v3 v4 v5 v6 v7 v10 v11 h  H locs ls hP hS hl
  have hx := C.1
  have hb := C.2.1
  have hC := And.intro C.1 C.2.1
  unfold mi_L_bottles_B211 at h
  refine lv_iload hx hb dL_bottles_211 (lv_at hl 9 rfl) ?_
  refine lv_bipush (v := 13) hx hb dL_bottles_213 (by decide) ?_
  refine lv_icmp_ge (tgt := 250) hx hb dL_bottles_215 (by decide) (fun c44 => ?_) (fun c44 => ?_)
  · replace h := mc_it h c44
    refine lv_iload hx hb dL_bottles_250 (lv_at hl 8 rfl) ?_
    refine lv_if_eq (tgt := 480) hx hb dL_bottles_252 (by decide) (fun c45 => ?_) (fun c45 => ?_)
    · replace h := mc_it h c45
      obtain ⟨x46, ex46, h⟩ := mc_bn_e h
      refine lv_iinc (v := x46) (lv' := [(7, .int x46), (0, .ref (w.2.2.1 144)), (1, .int v1), (2, .int v2), (3, .int v3), (4, .int v4), (5, .int v5), (6, .int v6), (10, .int v10), (11, .int v11)]) hx hb dL_bottles_480 hl (k := 7) rfl (by rw [ex46]; rfl) (by decide) rfl (fun ls hl => ?_)
      refine lv_goto (tgt := 24) hx hb dL_bottles_483 (by decide) ?_
      exact hk24 v1 v2 v3 v4 v5 v6 x46 h  hP hS (lv_sub hl [1, 2, 3, 4, 5, 6, 7, 0] rfl)
    · replace h := mc_ie h c45
      refine lv_aload_n hx hb dL_bottles_255 rfl (lv_at hl 0 rfl) ?_
      refine lv_iload hx hb dL_bottles_256 (lv_at hl 7 rfl) ?_
      refine lv_bipush (v := 10) hx hb dL_bottles_258 (by decide) ?_
      obtain ⟨r47, e48, h⟩ := mc_ob_e h
      refine mg_Vi (As := [.int v7, .int 10]) (rest := []) (ct_X8_bottle l (w := w) (I := I) (R := R) e48) C K hP hS hl.1 kf_144 (by decide) rfl rfl ml_L_16 wy_X8_bottle wd_X8_bottle rfl rfl rfl ⟨Nat.le_of_ble_eq_true rfl, Nat.le_of_ble_eq_true rfl⟩ (Nat.le_of_ble_eq_true rfl) ⟨Nat.zero_le _, Nat.zero_le _⟩ dL_bottles_260 (fun H locs hP hS => ?_)
      refine lv_istore (i := 11) (lv' := [(11, .int r47), (0, .ref (w.2.2.1 144)), (1, .int v1), (2, .int v2), (3, .int v3), (4, .int v4), (5, .int v5), (6, .int v6), (7, .int v7), (10, .int v10)]) hx hb dL_bottles_263 hl (by decide) rfl (fun ls hl => ?_)
      refine lv_iload hx hb dL_bottles_265 (lv_at hl 0 rfl) ?_
      refine lv_aload_n hx hb dL_bottles_267 rfl (lv_at hl 1 rfl) ?_
      refine lv_iload hx hb dL_bottles_268 (lv_at hl 8 rfl) ?_
      refine lv_bipush (v := 11) hx hb dL_bottles_270 (by decide) ?_
      obtain ⟨r49, e50, h⟩ := mc_ob_e h
      refine mg_Vi (As := [.int v7, .int 11]) (rest := [.int r47]) (ct_X8_bottle l (w := w) (I := I) (R := R) e50) C K hP hS hl.1 kf_144 (by decide) rfl rfl ml_L_16 wy_X8_bottle wd_X8_bottle rfl rfl rfl ⟨Nat.le_of_ble_eq_true rfl, Nat.le_of_ble_eq_true rfl⟩ (Nat.le_of_ble_eq_true rfl) ⟨Nat.zero_le _, Nat.zero_le _⟩ dL_bottles_272 (fun H locs hP hS => ?_)
      refine lv_icmp_le (tgt := 292) hx hb dL_bottles_275 (by decide) (fun c51 => ?_) (fun c51 => ?_)
      · replace h := mc_it h c51
        refine lv_aload_n hx hb dL_bottles_292 rfl (lv_at hl 1 rfl) ?_
        refine lv_iload hx hb dL_bottles_293 (lv_at hl 8 rfl) ?_
        refine lv_bipush (v := 11) hx hb dL_bottles_295 (by decide) ?_
        obtain ⟨r52, e53, h⟩ := mc_ob_e h
        refine mg_Vi (As := [.int v7, .int 11]) (rest := []) (ct_X8_bottle l (w := w) (I := I) (R := R) e53) C K hP hS hl.1 kf_144 (by decide) rfl rfl ml_L_16 wy_X8_bottle wd_X8_bottle rfl rfl rfl ⟨Nat.le_of_ble_eq_true rfl, Nat.le_of_ble_eq_true rfl⟩ (Nat.le_of_ble_eq_true rfl) ⟨Nat.zero_le _, Nat.zero_le _⟩ dL_bottles_297 (fun H locs hP hS => ?_)
        refine lv_iload hx hb dL_bottles_300 (lv_at hl 0 rfl) ?_
        refine lv_isub hx hb dL_bottles_302 ?_
        exact bk_L_bottles_J303 C hr hlk K hk24 v1 v2 v3 v4 v5 v6 v7 r47 (r52 - r47) h  hP hS (lv_sub hl [1, 2, 3, 4, 5, 6, 7, 8, 0] rfl)
      · replace h := mc_ie h c51
        refine lv_iload hx hb dL_bottles_278 (lv_at hl 0 rfl) ?_
        refine lv_aload_n hx hb dL_bottles_280 rfl (lv_at hl 1 rfl) ?_
        refine lv_iload hx hb dL_bottles_281 (lv_at hl 8 rfl) ?_
        refine lv_bipush (v := 11) hx hb dL_bottles_283 (by decide) ?_
        obtain ⟨r91, e92, h⟩ := mc_ob_e h
        refine mg_Vi (As := [.int v7, .int 11]) (rest := [.int r47]) (ct_X8_bottle l (w := w) (I := I) (R := R) e92) C K hP hS hl.1 kf_144 (by decide) rfl rfl ml_L_16 wy_X8_bottle wd_X8_bottle rfl rfl rfl ⟨Nat.le_of_ble_eq_true rfl, Nat.le_of_ble_eq_true rfl⟩ (Nat.le_of_ble_eq_true rfl) ⟨Nat.zero_le _, Nat.zero_le _⟩ dL_bottles_285 (fun H locs hP hS => ?_)
        refine lv_isub hx hb dL_bottles_288 ?_
        refine lv_goto (tgt := 303) hx hb dL_bottles_289 (by decide) ?_
        exact bk_L_bottles_J303 C hr hlk K hk24 v1 v2 v3 v4 v5 v6 v7 r47 (r47 - r91) h  hP hS (lv_sub hl [1, 2, 3, 4, 5, 6, 7, 8, 0] rfl)
  · replace h := mc_ie h c44
    refine lv_iload hx hb dL_bottles_218 (lv_at hl 8 rfl) ?_
    refine lv_aload_n hx hb dL_bottles_220 rfl (lv_at hl 0 rfl) ?_
    refine lv_iload hx hb dL_bottles_221 (lv_at hl 7 rfl) ?_
    refine lv_iload hx hb dL_bottles_223 (lv_at hl 9 rfl) ?_
    obtain ⟨r93, e94, h⟩ := mc_ob_e h
    refine mg_Vi (As := [.int v7, .int v11]) (rest := [.int v10]) (ct_X8_bottle l (w := w) (I := I) (R := R) e94) C K hP hS hl.1 kf_144 (by decide) rfl rfl ml_L_16 wy_X8_bottle wd_X8_bottle rfl rfl rfl ⟨Nat.le_of_ble_eq_true rfl, Nat.le_of_ble_eq_true rfl⟩ (Nat.le_of_ble_eq_true rfl) ⟨Nat.zero_le _, Nat.zero_le _⟩ dL_bottles_225 (fun H locs hP hS => ?_)
    refine lv_sipush (v := (-1005)) hx hb dL_bottles_228 (by decide) ?_
    refine lv_icmp_ne (tgt := 238) hx hb dL_bottles_231 (by decide) (fun c95 => ?_) (fun c95 => ?_)
    · replace h := mc_ie h c95
      refine lv_iconst (v := 0) hx hb dL_bottles_238 (by decide) ?_
      exact bk_L_bottles_J239 C hr hlk K hk24 hk211 v1 v2 v3 v4 v5 v6 v7 v10 v11 0 v10 h  hP hS (lv_sub hl [0, 1, 2, 3, 4, 5, 6, 7, 8, 9] rfl)
    · replace h := mc_it h c95
      refine lv_iconst (v := 1) hx hb dL_bottles_234 (by decide) ?_
      refine lv_goto (tgt := 239) hx hb dL_bottles_235 (by decide) ?_
      exact bk_L_bottles_J239 C hr hlk K hk24 hk211 v1 v2 v3 v4 v5 v6 v7 v10 v11 1 v10 h  hP hS (lv_sub hl [0, 1, 2, 3, 4, 5, 6, 7, 8, 9] rfl)
theorem bk_L_bottles_L211 {p : Program} {l : Launch} {e : Env} {s : State} {m : MethodId} {args : Array Value} {below : List Frame} {meth : Method} {c : Code} (C : CallFix p m c cL_bottles 13 s args mc_big RL) (hr : meth.sig.returnType = (some .boolean)) (hlk : meth.locks = false) {w : mc_w} (K : mc_K mc_k 152 w s) {I : Nat → Nat → Int32} {R : Nat → Nat → Option Nat} {F : Nat} {rz : Int32} {k24 : (Nat → Nat → Int32) → (Nat → Nat → Option Nat) → Int32 → Int32 → Int32 → Int32 → Int32 → Int32 → Int32 → Option (Int32)} (hk24 : ∀ (v1 : Int32) (v2 : Int32) (v3 : Int32) (v4 : Int32) (v5 : Int32) (v6 : Int32) (v7 : Int32), k24 I R v1 v2 v3 v4 v5 v6 v7 = some rz → ∀ {H : Heap} {locs : List Loc} {ls : Array Slot}, mc_P mc_k 152 w I R H → va_S (mc_A 152 w) s.heap H locs → lv_has ls 13 [(0, .ref (w.2.2.1 144)), (1, .int v1), (2, .int v2), (3, .int v3), (4, .int v4), (5, .int v5), (6, .int v6), (7, .int v7)] → W p l e ({ frames := 6, cells := 0, slots := 0, locals := 127 } : Room) s m args below meth c H locs 0 0 (MQ below (mc_Q (some (.int rz)) (fun t => mc_B mc_k 152 w I R t ∧ ¬ (rz ≠ 0 ∧ rz ≠ 1)) (mc_A 152 w)) args s 0 0 (mc_A 152 w)) (F0 m 24 ls [])) : ∀ n : Nat, ∀ (v1 : Int32) (v2 : Int32) (v3 : Int32) (v4 : Int32) (v5 : Int32) (v6 : Int32) (v7 : Int32) (v10 : Int32) (v11 : Int32), mi_L_bottles_L211 k24 F n I R v1 v2 v3 v4 v5 v6 v7 v10 v11 = some rz → ∀ {H : Heap} {locs : List Loc} {ls : Array Slot}, mc_P mc_k 152 w I R H → va_S (mc_A 152 w) s.heap H locs → lv_has ls 13 [(0, .ref (w.2.2.1 144)), (1, .int v1), (2, .int v2), (3, .int v3), (4, .int v4), (5, .int v5), (6, .int v6), (7, .int v7), (10, .int v10), (11, .int v11)] → W p l e ({ frames := 6, cells := 0, slots := 0, locals := 127 } : Room) s m args below meth c H locs 0 0 (MQ below (mc_Q (some (.int rz)) (fun t => mc_B mc_k 152 w I R t ∧ ¬ (rz ≠ 0 ∧ rz ≠ 1)) (mc_A 152 w)) args s 0 0 (mc_A 152 w)) (F0 m 211 ls []) := by
  intro n
  induction n with
  | zero =>
    intro v1 v2 v3 v4 v5 v6 v7 v10 v11 h
    cases h
  | succ n ih =>
    intro v1 v2 v3 v4 v5 v6 v7 v10 v11 h
    exact bk_L_bottles_B211 C hr hlk K hk24 ih v1 v2 v3 v4 v5 v6 v7 v10 v11 h
set_option maxHeartbeats 4000000 in
set_option maxRecDepth 100000 in
theorem bk_L_bottles_J190 {p : Program} {l : Launch} {e : Env} {s : State} {m : MethodId} {args : Array Value} {below : List Frame} {meth : Method} {c : Code} (C : CallFix p m c cL_bottles 13 s args mc_big RL) (hr : meth.sig.returnType = (some .boolean)) (hlk : meth.locks = false) {w : mc_w} (K : mc_K mc_k 152 w s) {I : Nat → Nat → Int32} {R : Nat → Nat → Option Nat} {F : Nat} {rz : Int32} {k24 : (Nat → Nat → Int32) → (Nat → Nat → Option Nat) → Int32 → Int32 → Int32 → Int32 → Int32 → Int32 → Int32 → Option (Int32)} (hk24 : ∀ (v1 : Int32) (v2 : Int32) (v3 : Int32) (v4 : Int32) (v5 : Int32) (v6 : Int32) (v7 : Int32), k24 I R v1 v2 v3 v4 v5 v6 v7 = some rz → ∀ {H : Heap} {locs : List Loc} {ls : Array Slot}, mc_P mc_k 152 w I R H → va_S (mc_A 152 w) s.heap H locs → lv_has ls 13 [(0, .ref (w.2.2.1 144)), (1, .int v1), (2, .int v2), (3, .int v3), (4, .int v4), (5, .int v5), (6, .int v6), (7, .int v7)] → W p l e ({ frames := 6, cells := 0, slots := 0, locals := 127 } : Room) s m args below meth c H locs 0 0 (MQ below (mc_Q (some (.int rz)) (fun t => mc_B mc_k 152 w I R t ∧ ¬ (rz ≠ 0 ∧ rz ≠ 1)) (mc_A 152 w)) args s 0 0 (mc_A 152 w)) (F0 m 24 ls [])) : ∀ (v1 : Int32) (v2 : Int32) (v3 : Int32) (v4 : Int32) (v5 : Int32) (v6 : Int32) (v7 : Int32) (v10 : Int32), mi_L_bottles_J190 k24 F I R v1 v2 v3 v4 v5 v6 v7 v10 = some rz → ∀ {H : Heap} {locs : List Loc} {ls : Array Slot}, mc_P mc_k 152 w I R H → va_S (mc_A 152 w) s.heap H locs → lv_has ls 13 [(0, .ref (w.2.2.1 144)), (1, .int v1), (2, .int v2), (3, .int v3), (4, .int v4), (5, .int v5), (6, .int v6), (7, .int v7), (10, .int v10)] → W p l e ({ frames := 6, cells := 0, slots := 0, locals := 127 } : Room) s m args below meth c H locs 0 0 (MQ below (mc_Q (some (.int rz)) (fun t => mc_B mc_k 152 w I R t ∧ ¬ (rz ≠ 0 ∧ rz ≠ 1)) (mc_A 152 w)) args s 0 0 (mc_A 152 w)) (F0 m 190 ls []) := by
  intro v1 v2 v3 v4 v5 v6 v7 v10 h  H locs ls hP hS hl
  have hx := C.1
  have hb := C.2.1
  have hC := And.intro C.1 C.2.1
  unfold mi_L_bottles_J190 at h
  refine lv_iload hx hb dL_bottles_190 (lv_at hl 8 rfl) ?_
  refine lv_if_ne (tgt := 207) hx hb dL_bottles_192 (by decide) (fun c43 => ?_) (fun c43 => ?_)
  · replace h := mc_ie h c43
    refine lv_bipush (v := 6) hx hb dL_bottles_207 (by decide) ?_
    refine lv_istore (i := 11) (lv' := [(11, .int 6), (0, .ref (w.2.2.1 144)), (1, .int v1), (2, .int v2), (3, .int v3), (4, .int v4), (5, .int v5), (6, .int v6), (7, .int v7), (10, .int v10)]) hx hb dL_bottles_209 hl (by decide) rfl (fun ls hl => ?_)
    exact bk_L_bottles_L211 C hr hlk K hk24 F v1 v2 v3 v4 v5 v6 v7 v10 6 h  hP hS (lv_sub hl [1, 2, 3, 4, 5, 6, 7, 8, 9, 0] rfl)
  · replace h := mc_it h c43
    refine lv_aload_n hx hb dL_bottles_195 rfl (lv_at hl 0 rfl) ?_
    refine lv_iload hx hb dL_bottles_196 (lv_at hl 7 rfl) ?_
    refine lv_iconst (v := 5) hx hb dL_bottles_198 (by decide) ?_
    obtain ⟨r98, e99, h⟩ := mc_ob_e h
    refine mg_Vi (As := [.int v7, .int 5]) (rest := []) (ct_X8_bottle l (w := w) (I := I) (R := R) e99) C K hP hS hl.1 kf_144 (by decide) rfl rfl ml_L_16 wy_X8_bottle wd_X8_bottle rfl rfl rfl ⟨Nat.le_of_ble_eq_true rfl, Nat.le_of_ble_eq_true rfl⟩ (Nat.le_of_ble_eq_true rfl) ⟨Nat.zero_le _, Nat.zero_le _⟩ dL_bottles_199 (fun H locs hP hS => ?_)
    refine lv_if_eq (tgt := 207) hx hb dL_bottles_202 (by decide) (fun c100 => ?_) (fun c100 => ?_)
    · replace h := mc_it h c100
      refine lv_bipush (v := 6) hx hb dL_bottles_207 (by decide) ?_
      refine lv_istore (i := 11) (lv' := [(11, .int 6), (0, .ref (w.2.2.1 144)), (1, .int v1), (2, .int v2), (3, .int v3), (4, .int v4), (5, .int v5), (6, .int v6), (7, .int v7), (10, .int v10)]) hx hb dL_bottles_209 hl (by decide) rfl (fun ls hl => ?_)
      exact bk_L_bottles_L211 C hr hlk K hk24 F v1 v2 v3 v4 v5 v6 v7 v10 6 h  hP hS (lv_sub hl [1, 2, 3, 4, 5, 6, 7, 8, 9, 0] rfl)
    · replace h := mc_ie h c100
      refine lv_iconst (v := 0) hx hb dL_bottles_205 (by decide) ?_
      cases h
      exact mt_zX hC hr hlk K hP hS (by decide) (by decide) dL_bottles_206
set_option maxHeartbeats 4000000 in
set_option maxRecDepth 100000 in
theorem bk_L_bottles_J145 {p : Program} {l : Launch} {e : Env} {s : State} {m : MethodId} {args : Array Value} {below : List Frame} {meth : Method} {c : Code} (C : CallFix p m c cL_bottles 13 s args mc_big RL) (hr : meth.sig.returnType = (some .boolean)) (hlk : meth.locks = false) {w : mc_w} (K : mc_K mc_k 152 w s) {I : Nat → Nat → Int32} {R : Nat → Nat → Option Nat} {F : Nat} {rz : Int32} {k24 : (Nat → Nat → Int32) → (Nat → Nat → Option Nat) → Int32 → Int32 → Int32 → Int32 → Int32 → Int32 → Int32 → Option (Int32)} (hk24 : ∀ (v1 : Int32) (v2 : Int32) (v3 : Int32) (v4 : Int32) (v5 : Int32) (v6 : Int32) (v7 : Int32), k24 I R v1 v2 v3 v4 v5 v6 v7 = some rz → ∀ {H : Heap} {locs : List Loc} {ls : Array Slot}, mc_P mc_k 152 w I R H → va_S (mc_A 152 w) s.heap H locs → lv_has ls 13 [(0, .ref (w.2.2.1 144)), (1, .int v1), (2, .int v2), (3, .int v3), (4, .int v4), (5, .int v5), (6, .int v6), (7, .int v7)] → W p l e ({ frames := 6, cells := 0, slots := 0, locals := 127 } : Room) s m args below meth c H locs 0 0 (MQ below (mc_Q (some (.int rz)) (fun t => mc_B mc_k 152 w I R t ∧ ¬ (rz ≠ 0 ∧ rz ≠ 1)) (mc_A 152 w)) args s 0 0 (mc_A 152 w)) (F0 m 24 ls [])) : ∀ (v1 : Int32) (v2 : Int32) (v3 : Int32) (v4 : Int32) (v5 : Int32) (v6 : Int32) (v7 : Int32) (v10 : Int32) (s0 : Int32) (s1 : Int32), mi_L_bottles_J145 k24 F I R v1 v2 v3 v4 v5 v6 v7 v10 s0 s1 = some rz → ∀ {H : Heap} {locs : List Loc} {ls : Array Slot}, mc_P mc_k 152 w I R H → va_S (mc_A 152 w) s.heap H locs → lv_has ls 13 [(0, .ref (w.2.2.1 144)), (1, .int v1), (2, .int v2), (3, .int v3), (4, .int v4), (5, .int v5), (6, .int v6), (7, .int v7), (10, .int v10)] → W p l e ({ frames := 6, cells := 0, slots := 0, locals := 127 } : Room) s m args below meth c H locs 0 0 (MQ below (mc_Q (some (.int rz)) (fun t => mc_B mc_k 152 w I R t ∧ ¬ (rz ≠ 0 ∧ rz ≠ 1)) (mc_A 152 w)) args s 0 0 (mc_A 152 w)) (F0 m 145 ls [.int s0, .int s1]) := by
  intro v1 v2 v3 v4 v5 v6 v7 v10 s0 s1 h  H locs ls hP hS hl
  have hx := C.1
  have hb := C.2.1
  have hC := And.intro C.1 C.2.1
  unfold mi_L_bottles_J145 at h
  refine lv_icmp_ne (tgt := 205) hx hb dL_bottles_145 (by decide) (fun c32 => ?_) (fun c32 => ?_)
  · replace h := mc_ie h c32
    refine lv_iconst (v := 0) hx hb dL_bottles_205 (by decide) ?_
    cases h
    exact mt_zX hC hr hlk K hP hS (by decide) (by decide) dL_bottles_206
  · replace h := mc_it h c32
    refine lv_aload_n hx hb dL_bottles_148 rfl (lv_at hl 0 rfl) ?_
    refine lv_iload hx hb dL_bottles_149 (lv_at hl 7 rfl) ?_
    refine lv_iconst (v := 2) hx hb dL_bottles_151 (by decide) ?_
    obtain ⟨r33, e34, h⟩ := mc_ob_e h
    refine mg_Vi (As := [.int v7, .int 2]) (rest := []) (ct_X8_bottle l (w := w) (I := I) (R := R) e34) C K hP hS hl.1 kf_144 (by decide) rfl rfl ml_L_16 wy_X8_bottle wd_X8_bottle rfl rfl rfl ⟨Nat.le_of_ble_eq_true rfl, Nat.le_of_ble_eq_true rfl⟩ (Nat.le_of_ble_eq_true rfl) ⟨Nat.zero_le _, Nat.zero_le _⟩ dL_bottles_152 (fun H locs hP hS => ?_)
    refine lv_aload_n hx hb dL_bottles_155 rfl (lv_at hl 0 rfl) ?_
    refine lv_aload_n hx hb dL_bottles_156 rfl (lv_at hl 0 rfl) ?_
    refine lv_iload hx hb dL_bottles_157 (lv_at hl 7 rfl) ?_
    refine lv_iconst (v := 1) hx hb dL_bottles_159 (by decide) ?_
    obtain ⟨r35, e36, h⟩ := mc_ob_e h
    refine mg_Vi (As := [.int v7, .int 1]) (rest := [.ref (w.2.2.1 144), .int r33]) (ct_X8_bottle l (w := w) (I := I) (R := R) e36) C K hP hS hl.1 kf_144 (by decide) rfl rfl ml_L_16 wy_X8_bottle wd_X8_bottle rfl rfl rfl ⟨Nat.le_of_ble_eq_true rfl, Nat.le_of_ble_eq_true rfl⟩ (Nat.le_of_ble_eq_true rfl) ⟨Nat.zero_le _, Nat.zero_le _⟩ dL_bottles_160 (fun H locs hP hS => ?_)
    refine lv_aload_n hx hb dL_bottles_163 rfl (lv_at hl 0 rfl) ?_
    refine lv_iconst (v := 3) hx hb dL_bottles_164 (by decide) ?_
    obtain ⟨r37, e38, h⟩ := mc_ob_e h
    refine mg_Vi (As := [.int 3]) (rest := [.int r35, .ref (w.2.2.1 144), .int r33]) (ct_X8_count l (w := w) (I := I) (R := R) e38) C K hP hS hl.1 kf_144 (by decide) rfl rfl ml_L_10 wy_X8_count wd_X8_count rfl rfl rfl ⟨Nat.le_of_ble_eq_true rfl, Nat.le_of_ble_eq_true rfl⟩ (Nat.le_of_ble_eq_true rfl) ⟨Nat.zero_le _, Nat.zero_le _⟩ dL_bottles_165 (fun H locs hP hS => ?_)
    obtain ⟨r39, e40, h⟩ := mc_ob_e h
    refine mg_Vi (As := [.int r35, .int r37]) (rest := [.int r33]) (ct_X8_depth l (w := w) (I := I) (R := R) e40) C K hP hS hl.1 kf_144 (by decide) rfl rfl ml_L_20 wy_X8_depth wd_X8_depth rfl rfl rfl ⟨Nat.le_of_ble_eq_true rfl, Nat.le_of_ble_eq_true rfl⟩ (Nat.le_of_ble_eq_true rfl) ⟨Nat.zero_le _, Nat.zero_le _⟩ dL_bottles_168 (fun H locs hP hS => ?_)
    refine lv_icmp_ne (tgt := 205) hx hb dL_bottles_171 (by decide) (fun c41 => ?_) (fun c41 => ?_)
    · replace h := mc_ie h c41
      refine lv_iconst (v := 0) hx hb dL_bottles_205 (by decide) ?_
      cases h
      exact mt_zX hC hr hlk K hP hS (by decide) (by decide) dL_bottles_206
    · replace h := mc_it h c41
      refine lv_iload hx hb dL_bottles_174 (lv_at hl 8 rfl) ?_
      refine lv_if_ne (tgt := 190) hx hb dL_bottles_176 (by decide) (fun c42 => ?_) (fun c42 => ?_)
      · replace h := mc_ie h c42
        exact bk_L_bottles_J190 C hr hlk K hk24 v1 v2 v3 v4 v5 v6 v7 v10 h  hP hS (lv_sub hl [0, 1, 2, 3, 4, 5, 6, 7, 8] rfl)
      · replace h := mc_it h c42
        refine lv_aload_n hx hb dL_bottles_179 rfl (lv_at hl 0 rfl) ?_
        refine lv_iload hx hb dL_bottles_180 (lv_at hl 7 rfl) ?_
        refine lv_bipush (v := 13) hx hb dL_bottles_182 (by decide) ?_
        obtain ⟨r101, e102, h⟩ := mc_ob_e h
        refine mg_Vi (As := [.int v7, .int 13]) (rest := []) (ct_X8_bottle l (w := w) (I := I) (R := R) e102) C K hP hS hl.1 kf_144 (by decide) rfl rfl ml_L_16 wy_X8_bottle wd_X8_bottle rfl rfl rfl ⟨Nat.le_of_ble_eq_true rfl, Nat.le_of_ble_eq_true rfl⟩ (Nat.le_of_ble_eq_true rfl) ⟨Nat.zero_le _, Nat.zero_le _⟩ dL_bottles_184 (fun H locs hP hS => ?_)
        refine lv_if_ne (tgt := 205) hx hb dL_bottles_187 (by decide) (fun c103 => ?_) (fun c103 => ?_)
        · replace h := mc_ie h c103
          refine lv_iconst (v := 0) hx hb dL_bottles_205 (by decide) ?_
          cases h
          exact mt_zX hC hr hlk K hP hS (by decide) (by decide) dL_bottles_206
        · replace h := mc_it h c103
          exact bk_L_bottles_J190 C hr hlk K hk24 v1 v2 v3 v4 v5 v6 v7 v10 h  hP hS (lv_sub hl [0, 1, 2, 3, 4, 5, 6, 7, 8] rfl)
set_option maxHeartbeats 4000000 in
set_option maxRecDepth 100000 in
theorem bk_L_bottles_J121 {p : Program} {l : Launch} {e : Env} {s : State} {m : MethodId} {args : Array Value} {below : List Frame} {meth : Method} {c : Code} (C : CallFix p m c cL_bottles 13 s args mc_big RL) (hr : meth.sig.returnType = (some .boolean)) (hlk : meth.locks = false) {w : mc_w} (K : mc_K mc_k 152 w s) {I : Nat → Nat → Int32} {R : Nat → Nat → Option Nat} {F : Nat} {rz : Int32} {k24 : (Nat → Nat → Int32) → (Nat → Nat → Option Nat) → Int32 → Int32 → Int32 → Int32 → Int32 → Int32 → Int32 → Option (Int32)} (hk24 : ∀ (v1 : Int32) (v2 : Int32) (v3 : Int32) (v4 : Int32) (v5 : Int32) (v6 : Int32) (v7 : Int32), k24 I R v1 v2 v3 v4 v5 v6 v7 = some rz → ∀ {H : Heap} {locs : List Loc} {ls : Array Slot}, mc_P mc_k 152 w I R H → va_S (mc_A 152 w) s.heap H locs → lv_has ls 13 [(0, .ref (w.2.2.1 144)), (1, .int v1), (2, .int v2), (3, .int v3), (4, .int v4), (5, .int v5), (6, .int v6), (7, .int v7)] → W p l e ({ frames := 6, cells := 0, slots := 0, locals := 127 } : Room) s m args below meth c H locs 0 0 (MQ below (mc_Q (some (.int rz)) (fun t => mc_B mc_k 152 w I R t ∧ ¬ (rz ≠ 0 ∧ rz ≠ 1)) (mc_A 152 w)) args s 0 0 (mc_A 152 w)) (F0 m 24 ls [])) : ∀ (v1 : Int32) (v2 : Int32) (v3 : Int32) (v4 : Int32) (v5 : Int32) (v6 : Int32) (v7 : Int32) (v8 : Int32) (v9 : Int32) (v10 : Int32), mi_L_bottles_J121 k24 F I R v1 v2 v3 v4 v5 v6 v7 v8 v9 v10 = some rz → ∀ {H : Heap} {locs : List Loc} {ls : Array Slot}, mc_P mc_k 152 w I R H → va_S (mc_A 152 w) s.heap H locs → lv_has ls 13 [(0, .ref (w.2.2.1 144)), (1, .int v1), (2, .int v2), (3, .int v3), (4, .int v4), (5, .int v5), (6, .int v6), (7, .int v7), (8, .int v8), (9, .int v9), (10, .int v10)] → W p l e ({ frames := 6, cells := 0, slots := 0, locals := 127 } : Room) s m args below meth c H locs 0 0 (MQ below (mc_Q (some (.int rz)) (fun t => mc_B mc_k 152 w I R t ∧ ¬ (rz ≠ 0 ∧ rz ≠ 1)) (mc_A 152 w)) args s 0 0 (mc_A 152 w)) (F0 m 121 ls []) := by
  intro v1 v2 v3 v4 v5 v6 v7 v8 v9 v10 h  H locs ls hP hS hl
  have hx := C.1
  have hb := C.2.1
  have hC := And.intro C.1 C.2.1
  unfold mi_L_bottles_J121 at h
  refine lv_aload_n hx hb dL_bottles_121 rfl (lv_at hl 0 rfl) ?_
  refine lv_iload hx hb dL_bottles_122 (lv_at hl 7 rfl) ?_
  refine lv_iconst (v := 1) hx hb dL_bottles_124 (by decide) ?_
  obtain ⟨r29, e30, h⟩ := mc_ob_e h
  refine mg_Vi (As := [.int v7, .int 1]) (rest := []) (ct_X8_bottle l (w := w) (I := I) (R := R) e30) C K hP hS hl.1 kf_144 (by decide) rfl rfl ml_L_16 wy_X8_bottle wd_X8_bottle rfl rfl rfl ⟨Nat.le_of_ble_eq_true rfl, Nat.le_of_ble_eq_true rfl⟩ (Nat.le_of_ble_eq_true rfl) ⟨Nat.zero_le _, Nat.zero_le _⟩ dL_bottles_125 (fun H locs hP hS => ?_)
  refine lv_iload hx hb dL_bottles_128 (lv_at hl 9 rfl) ?_
  refine lv_if_eq (tgt := 144) hx hb dL_bottles_130 (by decide) (fun c31 => ?_) (fun c31 => ?_)
  · replace h := mc_it h c31
    refine lv_iconst (v := 0) hx hb dL_bottles_144 (by decide) ?_
    exact bk_L_bottles_J145 C hr hlk K hk24 v1 v2 v3 v4 v5 v6 v7 v10 0 r29 h  hP hS (lv_sub hl [0, 1, 2, 3, 4, 5, 6, 7, 10] rfl)
  · replace h := mc_ie h c31
    refine lv_aload_n hx hb dL_bottles_133 rfl (lv_at hl 0 rfl) ?_
    refine lv_iconst (v := 1) hx hb dL_bottles_134 (by decide) ?_
    obtain ⟨r104, e105, h⟩ := mc_ob_e h
    refine mg_Vi (As := [.int 1]) (rest := [.int r29]) (ct_X8_count l (w := w) (I := I) (R := R) e105) C K hP hS hl.1 kf_144 (by decide) rfl rfl ml_L_10 wy_X8_count wd_X8_count rfl rfl rfl ⟨Nat.le_of_ble_eq_true rfl, Nat.le_of_ble_eq_true rfl⟩ (Nat.le_of_ble_eq_true rfl) ⟨Nat.zero_le _, Nat.zero_le _⟩ dL_bottles_135 (fun H locs hP hS => ?_)
    refine lv_iload hx hb dL_bottles_138 (lv_at hl 8 rfl) ?_
    refine lv_isub hx hb dL_bottles_140 ?_
    refine lv_goto (tgt := 145) hx hb dL_bottles_141 (by decide) ?_
    exact bk_L_bottles_J145 C hr hlk K hk24 v1 v2 v3 v4 v5 v6 v7 v10 (r104 - v8) r29 h  hP hS (lv_sub hl [0, 1, 2, 3, 4, 5, 6, 7, 10] rfl)
set_option maxHeartbeats 4000000 in
set_option maxRecDepth 100000 in
theorem bk_L_bottles_J98 {p : Program} {l : Launch} {e : Env} {s : State} {m : MethodId} {args : Array Value} {below : List Frame} {meth : Method} {c : Code} (C : CallFix p m c cL_bottles 13 s args mc_big RL) (hr : meth.sig.returnType = (some .boolean)) (hlk : meth.locks = false) {w : mc_w} (K : mc_K mc_k 152 w s) {I : Nat → Nat → Int32} {R : Nat → Nat → Option Nat} {F : Nat} {rz : Int32} {k24 : (Nat → Nat → Int32) → (Nat → Nat → Option Nat) → Int32 → Int32 → Int32 → Int32 → Int32 → Int32 → Int32 → Option (Int32)} (hk24 : ∀ (v1 : Int32) (v2 : Int32) (v3 : Int32) (v4 : Int32) (v5 : Int32) (v6 : Int32) (v7 : Int32), k24 I R v1 v2 v3 v4 v5 v6 v7 = some rz → ∀ {H : Heap} {locs : List Loc} {ls : Array Slot}, mc_P mc_k 152 w I R H → va_S (mc_A 152 w) s.heap H locs → lv_has ls 13 [(0, .ref (w.2.2.1 144)), (1, .int v1), (2, .int v2), (3, .int v3), (4, .int v4), (5, .int v5), (6, .int v6), (7, .int v7)] → W p l e ({ frames := 6, cells := 0, slots := 0, locals := 127 } : Room) s m args below meth c H locs 0 0 (MQ below (mc_Q (some (.int rz)) (fun t => mc_B mc_k 152 w I R t ∧ ¬ (rz ≠ 0 ∧ rz ≠ 1)) (mc_A 152 w)) args s 0 0 (mc_A 152 w)) (F0 m 24 ls [])) : ∀ (v1 : Int32) (v2 : Int32) (v4 : Int32) (v5 : Int32) (v6 : Int32) (v7 : Int32) (v8 : Int32) (v9 : Int32) (v10 : Int32) (s0 : Int32) (s1 : Int32), mi_L_bottles_J98 k24 F I R v1 v2 v4 v5 v6 v7 v8 v9 v10 s0 s1 = some rz → ∀ {H : Heap} {locs : List Loc} {ls : Array Slot}, mc_P mc_k 152 w I R H → va_S (mc_A 152 w) s.heap H locs → lv_has ls 13 [(0, .ref (w.2.2.1 144)), (1, .int v1), (2, .int v2), (4, .int v4), (5, .int v5), (6, .int v6), (7, .int v7), (8, .int v8), (9, .int v9), (10, .int v10)] → W p l e ({ frames := 6, cells := 0, slots := 0, locals := 127 } : Room) s m args below meth c H locs 0 0 (MQ below (mc_Q (some (.int rz)) (fun t => mc_B mc_k 152 w I R t ∧ ¬ (rz ≠ 0 ∧ rz ≠ 1)) (mc_A 152 w)) args s 0 0 (mc_A 152 w)) (F0 m 98 ls [.int s0, .int s1]) := by
  intro v1 v2 v4 v5 v6 v7 v8 v9 v10 s0 s1 h  H locs ls hP hS hl
  have hx := C.1
  have hb := C.2.1
  have hC := And.intro C.1 C.2.1
  unfold mi_L_bottles_J98 at h
  refine lv_iadd hx hb dL_bottles_98 ?_
  obtain ⟨x27, ex27, h⟩ := mc_bn_e h
  refine mv_top ex27 ?_
  refine lv_istore_n (i := 3) (lv' := [(3, .int x27), (0, .ref (w.2.2.1 144)), (1, .int v1), (2, .int v2), (4, .int v4), (5, .int v5), (6, .int v6), (7, .int v7), (8, .int v8), (9, .int v9), (10, .int v10)]) hx hb dL_bottles_99 rfl hl (by decide) rfl (fun ls hl => ?_)
  refine lv_iload hx hb dL_bottles_100 (lv_at hl 7 rfl) ?_
  refine lv_if_le (tgt := 121) hx hb dL_bottles_102 (by decide) (fun c28 => ?_) (fun c28 => ?_)
  · replace h := mc_it h c28
    exact bk_L_bottles_J121 C hr hlk K hk24 v1 v2 x27 v4 v5 v6 v7 v8 v9 v10 h  hP hS (lv_sub hl [1, 2, 3, 0, 4, 5, 6, 7, 8, 9, 10] rfl)
  · replace h := mc_ie h c28
    refine lv_iload hx hb dL_bottles_105 (lv_at hl 8 rfl) ?_
    refine lv_aload_n hx hb dL_bottles_107 rfl (lv_at hl 1 rfl) ?_
    refine lv_iload hx hb dL_bottles_108 (lv_at hl 7 rfl) ?_
    refine lv_iconst (v := 1) hx hb dL_bottles_110 (by decide) ?_
    refine lv_isub hx hb dL_bottles_111 ?_
    refine lv_iconst (v := 0) hx hb dL_bottles_112 (by decide) ?_
    obtain ⟨r106, e107, h⟩ := mc_ob_e h
    refine mg_Vi (As := [.int (v7 - 1), .int 0]) (rest := [.int v8]) (ct_X8_bottle l (w := w) (I := I) (R := R) e107) C K hP hS hl.1 kf_144 (by decide) rfl rfl ml_L_16 wy_X8_bottle wd_X8_bottle rfl rfl rfl ⟨Nat.le_of_ble_eq_true rfl, Nat.le_of_ble_eq_true rfl⟩ (Nat.le_of_ble_eq_true rfl) ⟨Nat.zero_le _, Nat.zero_le _⟩ dL_bottles_113 (fun H locs hP hS => ?_)
    refine lv_iconst (v := 5) hx hb dL_bottles_116 (by decide) ?_
    refine lv_iadd hx hb dL_bottles_117 ?_
    refine lv_icmp_lt (tgt := 205) hx hb dL_bottles_118 (by decide) (fun c108 => ?_) (fun c108 => ?_)
    · replace h := mc_it h c108
      refine lv_iconst (v := 0) hx hb dL_bottles_205 (by decide) ?_
      cases h
      exact mt_zX hC hr hlk K hP hS (by decide) (by decide) dL_bottles_206
    · replace h := mc_ie h c108
      exact bk_L_bottles_J121 C hr hlk K hk24 v1 v2 x27 v4 v5 v6 v7 v8 v9 v10 h  hP hS (lv_sub hl [1, 2, 3, 0, 4, 5, 6, 7, 8, 9, 10] rfl)
set_option maxHeartbeats 4000000 in
set_option maxRecDepth 100000 in
theorem bk_L_bottles_J85 {p : Program} {l : Launch} {e : Env} {s : State} {m : MethodId} {args : Array Value} {below : List Frame} {meth : Method} {c : Code} (C : CallFix p m c cL_bottles 13 s args mc_big RL) (hr : meth.sig.returnType = (some .boolean)) (hlk : meth.locks = false) {w : mc_w} (K : mc_K mc_k 152 w s) {I : Nat → Nat → Int32} {R : Nat → Nat → Option Nat} {F : Nat} {rz : Int32} {k24 : (Nat → Nat → Int32) → (Nat → Nat → Option Nat) → Int32 → Int32 → Int32 → Int32 → Int32 → Int32 → Int32 → Option (Int32)} (hk24 : ∀ (v1 : Int32) (v2 : Int32) (v3 : Int32) (v4 : Int32) (v5 : Int32) (v6 : Int32) (v7 : Int32), k24 I R v1 v2 v3 v4 v5 v6 v7 = some rz → ∀ {H : Heap} {locs : List Loc} {ls : Array Slot}, mc_P mc_k 152 w I R H → va_S (mc_A 152 w) s.heap H locs → lv_has ls 13 [(0, .ref (w.2.2.1 144)), (1, .int v1), (2, .int v2), (3, .int v3), (4, .int v4), (5, .int v5), (6, .int v6), (7, .int v7)] → W p l e ({ frames := 6, cells := 0, slots := 0, locals := 127 } : Room) s m args below meth c H locs 0 0 (MQ below (mc_Q (some (.int rz)) (fun t => mc_B mc_k 152 w I R t ∧ ¬ (rz ≠ 0 ∧ rz ≠ 1)) (mc_A 152 w)) args s 0 0 (mc_A 152 w)) (F0 m 24 ls [])) : ∀ (v1 : Int32) (v3 : Int32) (v4 : Int32) (v5 : Int32) (v6 : Int32) (v7 : Int32) (v8 : Int32) (v9 : Int32) (v10 : Int32) (s0 : Int32) (s1 : Int32), mi_L_bottles_J85 k24 F I R v1 v3 v4 v5 v6 v7 v8 v9 v10 s0 s1 = some rz → ∀ {H : Heap} {locs : List Loc} {ls : Array Slot}, mc_P mc_k 152 w I R H → va_S (mc_A 152 w) s.heap H locs → lv_has ls 13 [(0, .ref (w.2.2.1 144)), (1, .int v1), (3, .int v3), (4, .int v4), (5, .int v5), (6, .int v6), (7, .int v7), (8, .int v8), (9, .int v9), (10, .int v10)] → W p l e ({ frames := 6, cells := 0, slots := 0, locals := 127 } : Room) s m args below meth c H locs 0 0 (MQ below (mc_Q (some (.int rz)) (fun t => mc_B mc_k 152 w I R t ∧ ¬ (rz ≠ 0 ∧ rz ≠ 1)) (mc_A 152 w)) args s 0 0 (mc_A 152 w)) (F0 m 85 ls [.int s0, .int s1]) := by
  intro v1 v3 v4 v5 v6 v7 v8 v9 v10 s0 s1 h  H locs ls hP hS hl
  have hx := C.1
  have hb := C.2.1
  have hC := And.intro C.1 C.2.1
  unfold mi_L_bottles_J85 at h
  refine lv_iadd hx hb dL_bottles_85 ?_
  obtain ⟨x25, ex25, h⟩ := mc_bn_e h
  refine mv_top ex25 ?_
  refine lv_istore_n (i := 2) (lv' := [(2, .int x25), (0, .ref (w.2.2.1 144)), (1, .int v1), (3, .int v3), (4, .int v4), (5, .int v5), (6, .int v6), (7, .int v7), (8, .int v8), (9, .int v9), (10, .int v10)]) hx hb dL_bottles_86 rfl hl (by decide) rfl (fun ls hl => ?_)
  refine lv_iload_n hx hb dL_bottles_87 rfl (lv_at hl 3 rfl) ?_
  refine lv_iload hx hb dL_bottles_88 (lv_at hl 10 rfl) ?_
  refine lv_if_eq (tgt := 97) hx hb dL_bottles_90 (by decide) (fun c26 => ?_) (fun c26 => ?_)
  · replace h := mc_it h c26
    refine lv_iconst (v := 0) hx hb dL_bottles_97 (by decide) ?_
    exact bk_L_bottles_J98 C hr hlk K hk24 v1 x25 v4 v5 v6 v7 v8 v9 v10 0 v3 h  hP hS (lv_sub hl [1, 2, 0, 4, 5, 6, 7, 8, 9, 10] rfl)
  · replace h := mc_ie h c26
    refine lv_iconst (v := 1) hx hb dL_bottles_93 (by decide) ?_
    refine lv_goto (tgt := 98) hx hb dL_bottles_94 (by decide) ?_
    exact bk_L_bottles_J98 C hr hlk K hk24 v1 x25 v4 v5 v6 v7 v8 v9 v10 1 v3 h  hP hS (lv_sub hl [1, 2, 0, 4, 5, 6, 7, 8, 9, 10] rfl)
set_option maxHeartbeats 4000000 in
set_option maxRecDepth 100000 in
theorem bk_L_bottles_J72 {p : Program} {l : Launch} {e : Env} {s : State} {m : MethodId} {args : Array Value} {below : List Frame} {meth : Method} {c : Code} (C : CallFix p m c cL_bottles 13 s args mc_big RL) (hr : meth.sig.returnType = (some .boolean)) (hlk : meth.locks = false) {w : mc_w} (K : mc_K mc_k 152 w s) {I : Nat → Nat → Int32} {R : Nat → Nat → Option Nat} {F : Nat} {rz : Int32} {k24 : (Nat → Nat → Int32) → (Nat → Nat → Option Nat) → Int32 → Int32 → Int32 → Int32 → Int32 → Int32 → Int32 → Option (Int32)} (hk24 : ∀ (v1 : Int32) (v2 : Int32) (v3 : Int32) (v4 : Int32) (v5 : Int32) (v6 : Int32) (v7 : Int32), k24 I R v1 v2 v3 v4 v5 v6 v7 = some rz → ∀ {H : Heap} {locs : List Loc} {ls : Array Slot}, mc_P mc_k 152 w I R H → va_S (mc_A 152 w) s.heap H locs → lv_has ls 13 [(0, .ref (w.2.2.1 144)), (1, .int v1), (2, .int v2), (3, .int v3), (4, .int v4), (5, .int v5), (6, .int v6), (7, .int v7)] → W p l e ({ frames := 6, cells := 0, slots := 0, locals := 127 } : Room) s m args below meth c H locs 0 0 (MQ below (mc_Q (some (.int rz)) (fun t => mc_B mc_k 152 w I R t ∧ ¬ (rz ≠ 0 ∧ rz ≠ 1)) (mc_A 152 w)) args s 0 0 (mc_A 152 w)) (F0 m 24 ls [])) : ∀ (v1 : Int32) (v2 : Int32) (v3 : Int32) (v4 : Int32) (v5 : Int32) (v6 : Int32) (v7 : Int32) (v8 : Int32) (v9 : Int32) (s0 : Int32), mi_L_bottles_J72 k24 F I R v1 v2 v3 v4 v5 v6 v7 v8 v9 s0 = some rz → ∀ {H : Heap} {locs : List Loc} {ls : Array Slot}, mc_P mc_k 152 w I R H → va_S (mc_A 152 w) s.heap H locs → lv_has ls 13 [(0, .ref (w.2.2.1 144)), (1, .int v1), (2, .int v2), (3, .int v3), (4, .int v4), (5, .int v5), (6, .int v6), (7, .int v7), (8, .int v8), (9, .int v9)] → W p l e ({ frames := 6, cells := 0, slots := 0, locals := 127 } : Room) s m args below meth c H locs 0 0 (MQ below (mc_Q (some (.int rz)) (fun t => mc_B mc_k 152 w I R t ∧ ¬ (rz ≠ 0 ∧ rz ≠ 1)) (mc_A 152 w)) args s 0 0 (mc_A 152 w)) (F0 m 72 ls [.int s0]) := by
  intro v1 v2 v3 v4 v5 v6 v7 v8 v9 s0 h  H locs ls hP hS hl
  have hx := C.1
  have hb := C.2.1
  have hC := And.intro C.1 C.2.1
  unfold mi_L_bottles_J72 at h
  refine lv_istore (i := 10) (lv' := [(10, .int s0), (0, .ref (w.2.2.1 144)), (1, .int v1), (2, .int v2), (3, .int v3), (4, .int v4), (5, .int v5), (6, .int v6), (7, .int v7), (8, .int v8), (9, .int v9)]) hx hb dL_bottles_72 hl (by decide) rfl (fun ls hl => ?_)
  refine lv_iload_n hx hb dL_bottles_74 rfl (lv_at hl 3 rfl) ?_
  refine lv_iload hx hb dL_bottles_75 (lv_at hl 10 rfl) ?_
  refine lv_if_eq (tgt := 84) hx hb dL_bottles_77 (by decide) (fun c24 => ?_) (fun c24 => ?_)
  · replace h := mc_it h c24
    refine lv_iconst (v := 0) hx hb dL_bottles_84 (by decide) ?_
    exact bk_L_bottles_J85 C hr hlk K hk24 v1 v3 v4 v5 v6 v7 v8 v9 s0 0 v2 h  hP hS (lv_sub hl [1, 2, 4, 5, 6, 7, 8, 9, 10, 0] rfl)
  · replace h := mc_ie h c24
    refine lv_iconst (v := 1) hx hb dL_bottles_80 (by decide) ?_
    refine lv_goto (tgt := 85) hx hb dL_bottles_81 (by decide) ?_
    exact bk_L_bottles_J85 C hr hlk K hk24 v1 v3 v4 v5 v6 v7 v8 v9 s0 1 v2 h  hP hS (lv_sub hl [1, 2, 4, 5, 6, 7, 8, 9, 10, 0] rfl)
set_option maxHeartbeats 4000000 in
set_option maxRecDepth 100000 in
theorem bk_L_bottles_J54 {p : Program} {l : Launch} {e : Env} {s : State} {m : MethodId} {args : Array Value} {below : List Frame} {meth : Method} {c : Code} (C : CallFix p m c cL_bottles 13 s args mc_big RL) (hr : meth.sig.returnType = (some .boolean)) (hlk : meth.locks = false) {w : mc_w} (K : mc_K mc_k 152 w s) {I : Nat → Nat → Int32} {R : Nat → Nat → Option Nat} {F : Nat} {rz : Int32} {k24 : (Nat → Nat → Int32) → (Nat → Nat → Option Nat) → Int32 → Int32 → Int32 → Int32 → Int32 → Int32 → Int32 → Option (Int32)} (hk24 : ∀ (v1 : Int32) (v2 : Int32) (v3 : Int32) (v4 : Int32) (v5 : Int32) (v6 : Int32) (v7 : Int32), k24 I R v1 v2 v3 v4 v5 v6 v7 = some rz → ∀ {H : Heap} {locs : List Loc} {ls : Array Slot}, mc_P mc_k 152 w I R H → va_S (mc_A 152 w) s.heap H locs → lv_has ls 13 [(0, .ref (w.2.2.1 144)), (1, .int v1), (2, .int v2), (3, .int v3), (4, .int v4), (5, .int v5), (6, .int v6), (7, .int v7)] → W p l e ({ frames := 6, cells := 0, slots := 0, locals := 127 } : Room) s m args below meth c H locs 0 0 (MQ below (mc_Q (some (.int rz)) (fun t => mc_B mc_k 152 w I R t ∧ ¬ (rz ≠ 0 ∧ rz ≠ 1)) (mc_A 152 w)) args s 0 0 (mc_A 152 w)) (F0 m 24 ls [])) : ∀ (v1 : Int32) (v2 : Int32) (v3 : Int32) (v4 : Int32) (v5 : Int32) (v6 : Int32) (v7 : Int32) (v8 : Int32) (s0 : Int32), mi_L_bottles_J54 k24 F I R v1 v2 v3 v4 v5 v6 v7 v8 s0 = some rz → ∀ {H : Heap} {locs : List Loc} {ls : Array Slot}, mc_P mc_k 152 w I R H → va_S (mc_A 152 w) s.heap H locs → lv_has ls 13 [(0, .ref (w.2.2.1 144)), (1, .int v1), (2, .int v2), (3, .int v3), (4, .int v4), (5, .int v5), (6, .int v6), (7, .int v7), (8, .int v8)] → W p l e ({ frames := 6, cells := 0, slots := 0, locals := 127 } : Room) s m args below meth c H locs 0 0 (MQ below (mc_Q (some (.int rz)) (fun t => mc_B mc_k 152 w I R t ∧ ¬ (rz ≠ 0 ∧ rz ≠ 1)) (mc_A 152 w)) args s 0 0 (mc_A 152 w)) (F0 m 54 ls [.int s0]) := by
  intro v1 v2 v3 v4 v5 v6 v7 v8 s0 h  H locs ls hP hS hl
  have hx := C.1
  have hb := C.2.1
  have hC := And.intro C.1 C.2.1
  unfold mi_L_bottles_J54 at h
  refine lv_istore (i := 9) (lv' := [(9, .int s0), (0, .ref (w.2.2.1 144)), (1, .int v1), (2, .int v2), (3, .int v3), (4, .int v4), (5, .int v5), (6, .int v6), (7, .int v7), (8, .int v8)]) hx hb dL_bottles_54 hl (by decide) rfl (fun ls hl => ?_)
  refine lv_aload_n hx hb dL_bottles_56 rfl (lv_at hl 1 rfl) ?_
  refine lv_iload hx hb dL_bottles_57 (lv_at hl 8 rfl) ?_
  refine lv_iconst (v := 3) hx hb dL_bottles_59 (by decide) ?_
  obtain ⟨r21, e22, h⟩ := mc_ob_e h
  refine mg_Vi (As := [.int v7, .int 3]) (rest := []) (ct_X8_bottle l (w := w) (I := I) (R := R) e22) C K hP hS hl.1 kf_144 (by decide) rfl rfl ml_L_16 wy_X8_bottle wd_X8_bottle rfl rfl rfl ⟨Nat.le_of_ble_eq_true rfl, Nat.le_of_ble_eq_true rfl⟩ (Nat.le_of_ble_eq_true rfl) ⟨Nat.zero_le _, Nat.zero_le _⟩ dL_bottles_60 (fun H locs hP hS => ?_)
  refine lv_iconst (v := 1) hx hb dL_bottles_63 (by decide) ?_
  refine lv_icmp_ne (tgt := 71) hx hb dL_bottles_64 (by decide) (fun c23 => ?_) (fun c23 => ?_)
  · replace h := mc_ie h c23
    refine lv_iconst (v := 0) hx hb dL_bottles_71 (by decide) ?_
    exact bk_L_bottles_J72 C hr hlk K hk24 v1 v2 v3 v4 v5 v6 v7 v8 s0 0 h  hP hS (lv_sub hl [1, 2, 3, 4, 5, 6, 7, 8, 9, 0] rfl)
  · replace h := mc_it h c23
    refine lv_iconst (v := 1) hx hb dL_bottles_67 (by decide) ?_
    refine lv_goto (tgt := 72) hx hb dL_bottles_68 (by decide) ?_
    exact bk_L_bottles_J72 C hr hlk K hk24 v1 v2 v3 v4 v5 v6 v7 v8 s0 1 h  hP hS (lv_sub hl [1, 2, 3, 4, 5, 6, 7, 8, 9, 0] rfl)
set_option maxHeartbeats 4000000 in
set_option maxRecDepth 100000 in
theorem bk_L_bottles_B24 {p : Program} {l : Launch} {e : Env} {s : State} {m : MethodId} {args : Array Value} {below : List Frame} {meth : Method} {c : Code} (C : CallFix p m c cL_bottles 13 s args mc_big RL) (hr : meth.sig.returnType = (some .boolean)) (hlk : meth.locks = false) {w : mc_w} (K : mc_K mc_k 152 w s) {I : Nat → Nat → Int32} {R : Nat → Nat → Option Nat} {F : Nat} {rz : Int32} {k24 : (Nat → Nat → Int32) → (Nat → Nat → Option Nat) → Int32 → Int32 → Int32 → Int32 → Int32 → Int32 → Int32 → Option (Int32)} (hk24 : ∀ (v1 : Int32) (v2 : Int32) (v3 : Int32) (v4 : Int32) (v5 : Int32) (v6 : Int32) (v7 : Int32), k24 I R v1 v2 v3 v4 v5 v6 v7 = some rz → ∀ {H : Heap} {locs : List Loc} {ls : Array Slot}, mc_P mc_k 152 w I R H → va_S (mc_A 152 w) s.heap H locs → lv_has ls 13 [(0, .ref (w.2.2.1 144)), (1, .int v1), (2, .int v2), (3, .int v3), (4, .int v4), (5, .int v5), (6, .int v6), (7, .int v7)] → W p l e ({ frames := 6, cells := 0, slots := 0, locals := 127 } : Room) s m args below meth c H locs 0 0 (MQ below (mc_Q (some (.int rz)) (fun t => mc_B mc_k 152 w I R t ∧ ¬ (rz ≠ 0 ∧ rz ≠ 1)) (mc_A 152 w)) args s 0 0 (mc_A 152 w)) (F0 m 24 ls [])) : ∀ (v1 : Int32) (v2 : Int32) (v3 : Int32) (v4 : Int32) (v5 : Int32) (v6 : Int32) (v7 : Int32), mi_L_bottles_B24 k24 F I R v1 v2 v3 v4 v5 v6 v7 = some rz → ∀ {H : Heap} {locs : List Loc} {ls : Array Slot}, mc_P mc_k 152 w I R H → va_S (mc_A 152 w) s.heap H locs → lv_has ls 13 [(0, .ref (w.2.2.1 144)), (1, .int v1), (2, .int v2), (3, .int v3), (4, .int v4), (5, .int v5), (6, .int v6), (7, .int v7)] → W p l e ({ frames := 6, cells := 0, slots := 0, locals := 127 } : Room) s m args below meth c H locs 0 0 (MQ below (mc_Q (some (.int rz)) (fun t => mc_B mc_k 152 w I R t ∧ ¬ (rz ≠ 0 ∧ rz ≠ 1)) (mc_A 152 w)) args s 0 0 (mc_A 152 w)) (F0 m 24 ls []) := by
  intro v1 v2 v3 v4 v5 v6 v7 h  H locs ls hP hS hl
  have hx := C.1
  have hb := C.2.1
  have hC := And.intro C.1 C.2.1
  unfold mi_L_bottles_B24 at h
  refine lv_iload hx hb dL_bottles_24 (lv_at hl 7 rfl) ?_
  refine lv_iload_n hx hb dL_bottles_26 rfl (lv_at hl 1 rfl) ?_
  refine lv_icmp_ge (tgt := 486) hx hb dL_bottles_27 (by decide) (fun c3 => ?_) (fun c3 => ?_)
  · replace h := mc_it h c3
    refine lv_aload_n hx hb dL_bottles_486 rfl (lv_at hl 0 rfl) ?_
    refine lv_bipush (v := 6) hx hb dL_bottles_487 (by decide) ?_
    obtain ⟨r4, e5, h⟩ := mc_ob_e h
    refine mg_Vi (As := [.int 6]) (rest := []) (ct_X8_count l (w := w) (I := I) (R := R) e5) C K hP hS hl.1 kf_144 (by decide) rfl rfl ml_L_10 wy_X8_count wd_X8_count rfl rfl rfl ⟨Nat.le_of_ble_eq_true rfl, Nat.le_of_ble_eq_true rfl⟩ (Nat.le_of_ble_eq_true rfl) ⟨Nat.zero_le _, Nat.zero_le _⟩ dL_bottles_489 (fun H locs hP hS => ?_)
    refine lv_iload_n hx hb dL_bottles_492 rfl (lv_at hl 2 rfl) ?_
    refine lv_icmp_ne (tgt := 530) hx hb dL_bottles_493 (by decide) (fun c6 => ?_) (fun c6 => ?_)
    · replace h := mc_ie h c6
      refine lv_iconst (v := 0) hx hb dL_bottles_530 (by decide) ?_
      cases h
      exact mt_zX hC hr hlk K hP hS (by decide) (by decide) dL_bottles_531
    · replace h := mc_it h c6
      refine lv_aload_n hx hb dL_bottles_496 rfl (lv_at hl 0 rfl) ?_
      refine lv_bipush (v := 7) hx hb dL_bottles_497 (by decide) ?_
      obtain ⟨r7, e8, h⟩ := mc_ob_e h
      refine mg_Vi (As := [.int 7]) (rest := []) (ct_X8_count l (w := w) (I := I) (R := R) e8) C K hP hS hl.1 kf_144 (by decide) rfl rfl ml_L_10 wy_X8_count wd_X8_count rfl rfl rfl ⟨Nat.le_of_ble_eq_true rfl, Nat.le_of_ble_eq_true rfl⟩ (Nat.le_of_ble_eq_true rfl) ⟨Nat.zero_le _, Nat.zero_le _⟩ dL_bottles_499 (fun H locs hP hS => ?_)
      refine lv_iload_n hx hb dL_bottles_502 rfl (lv_at hl 3 rfl) ?_
      refine lv_icmp_ne (tgt := 530) hx hb dL_bottles_503 (by decide) (fun c9 => ?_) (fun c9 => ?_)
      · replace h := mc_ie h c9
        refine lv_iconst (v := 0) hx hb dL_bottles_530 (by decide) ?_
        cases h
        exact mt_zX hC hr hlk K hP hS (by decide) (by decide) dL_bottles_531
      · replace h := mc_it h c9
        refine lv_aload_n hx hb dL_bottles_506 rfl (lv_at hl 0 rfl) ?_
        refine lv_bipush (v := 8) hx hb dL_bottles_507 (by decide) ?_
        obtain ⟨r10, e11, h⟩ := mc_ob_e h
        refine mg_Vi (As := [.int 8]) (rest := []) (ct_X8_count l (w := w) (I := I) (R := R) e11) C K hP hS hl.1 kf_144 (by decide) rfl rfl ml_L_10 wy_X8_count wd_X8_count rfl rfl rfl ⟨Nat.le_of_ble_eq_true rfl, Nat.le_of_ble_eq_true rfl⟩ (Nat.le_of_ble_eq_true rfl) ⟨Nat.zero_le _, Nat.zero_le _⟩ dL_bottles_509 (fun H locs hP hS => ?_)
        refine lv_iload hx hb dL_bottles_512 (lv_at hl 4 rfl) ?_
        refine lv_icmp_ne (tgt := 530) hx hb dL_bottles_514 (by decide) (fun c12 => ?_) (fun c12 => ?_)
        · replace h := mc_ie h c12
          refine lv_iconst (v := 0) hx hb dL_bottles_530 (by decide) ?_
          cases h
          exact mt_zX hC hr hlk K hP hS (by decide) (by decide) dL_bottles_531
        · replace h := mc_it h c12
          refine lv_aload_n hx hb dL_bottles_517 rfl (lv_at hl 0 rfl) ?_
          obtain ⟨r13, e14, h⟩ := mc_ob_e h
          refine mg_Vi (As := []) (rest := []) (ct_X8_worst l (w := w) (I := I) (R := R) e14) C K hP hS hl.1 kf_144 (by decide) rfl rfl ml_L_23 wy_X8_worst wd_X8_worst rfl rfl rfl ⟨Nat.le_of_ble_eq_true rfl, Nat.le_of_ble_eq_true rfl⟩ (Nat.le_of_ble_eq_true rfl) ⟨Nat.zero_le _, Nat.zero_le _⟩ dL_bottles_518 (fun H locs hP hS => ?_)
          refine lv_iload hx hb dL_bottles_521 (lv_at hl 5 rfl) ?_
          refine lv_icmp_ne (tgt := 530) hx hb dL_bottles_523 (by decide) (fun c15 => ?_) (fun c15 => ?_)
          · replace h := mc_ie h c15
            refine lv_iconst (v := 0) hx hb dL_bottles_530 (by decide) ?_
            cases h
            exact mt_zX hC hr hlk K hP hS (by decide) (by decide) dL_bottles_531
          · replace h := mc_it h c15
            refine lv_iconst (v := 1) hx hb dL_bottles_526 (by decide) ?_
            refine lv_goto (tgt := 531) hx hb dL_bottles_527 (by decide) ?_
            cases h
            exact mt_zX hC hr hlk K hP hS (by decide) (by decide) dL_bottles_531
  · replace h := mc_ie h c3
    refine lv_aload_n hx hb dL_bottles_30 rfl (lv_at hl 0 rfl) ?_
    refine lv_iload hx hb dL_bottles_31 (lv_at hl 7 rfl) ?_
    refine lv_iconst (v := 0) hx hb dL_bottles_33 (by decide) ?_
    obtain ⟨r16, e17, h⟩ := mc_ob_e h
    refine mg_Vi (As := [.int v7, .int 0]) (rest := []) (ct_X8_bottle l (w := w) (I := I) (R := R) e17) C K hP hS hl.1 kf_144 (by decide) rfl rfl ml_L_16 wy_X8_bottle wd_X8_bottle rfl rfl rfl ⟨Nat.le_of_ble_eq_true rfl, Nat.le_of_ble_eq_true rfl⟩ (Nat.le_of_ble_eq_true rfl) ⟨Nat.zero_le _, Nat.zero_le _⟩ dL_bottles_34 (fun H locs hP hS => ?_)
    refine lv_istore (i := 8) (lv' := [(8, .int r16), (0, .ref (w.2.2.1 144)), (1, .int v1), (2, .int v2), (3, .int v3), (4, .int v4), (5, .int v5), (6, .int v6), (7, .int v7)]) hx hb dL_bottles_37 hl (by decide) rfl (fun ls hl => ?_)
    refine lv_iload hx hb dL_bottles_39 (lv_at hl 0 rfl) ?_
    refine lv_aload_n hx hb dL_bottles_41 rfl (lv_at hl 1 rfl) ?_
    refine lv_iconst (v := 1) hx hb dL_bottles_42 (by decide) ?_
    obtain ⟨r18, e19, h⟩ := mc_ob_e h
    refine mg_Vi (As := [.int 1]) (rest := [.int r16]) (ct_X8_count l (w := w) (I := I) (R := R) e19) C K hP hS hl.1 kf_144 (by decide) rfl rfl ml_L_10 wy_X8_count wd_X8_count rfl rfl rfl ⟨Nat.le_of_ble_eq_true rfl, Nat.le_of_ble_eq_true rfl⟩ (Nat.le_of_ble_eq_true rfl) ⟨Nat.zero_le _, Nat.zero_le _⟩ dL_bottles_43 (fun H locs hP hS => ?_)
    refine lv_icmp_ge (tgt := 53) hx hb dL_bottles_46 (by decide) (fun c20 => ?_) (fun c20 => ?_)
    · replace h := mc_it h c20
      refine lv_iconst (v := 0) hx hb dL_bottles_53 (by decide) ?_
      exact bk_L_bottles_J54 C hr hlk K hk24 v1 v2 v3 v4 v5 v6 v7 r16 0 h  hP hS (lv_sub hl [1, 2, 3, 4, 5, 6, 7, 8, 0] rfl)
    · replace h := mc_ie h c20
      refine lv_iconst (v := 1) hx hb dL_bottles_49 (by decide) ?_
      refine lv_goto (tgt := 54) hx hb dL_bottles_50 (by decide) ?_
      exact bk_L_bottles_J54 C hr hlk K hk24 v1 v2 v3 v4 v5 v6 v7 r16 1 h  hP hS (lv_sub hl [1, 2, 3, 4, 5, 6, 7, 8, 0] rfl)
theorem bk_L_bottles_L24 {p : Program} {l : Launch} {e : Env} {s : State} {m : MethodId} {args : Array Value} {below : List Frame} {meth : Method} {c : Code} (C : CallFix p m c cL_bottles 13 s args mc_big RL) (hr : meth.sig.returnType = (some .boolean)) (hlk : meth.locks = false) {w : mc_w} (K : mc_K mc_k 152 w s) {I : Nat → Nat → Int32} {R : Nat → Nat → Option Nat} {F : Nat} {rz : Int32} : ∀ n : Nat, ∀ (v1 : Int32) (v2 : Int32) (v3 : Int32) (v4 : Int32) (v5 : Int32) (v6 : Int32) (v7 : Int32), mi_L_bottles_L24 F n I R v1 v2 v3 v4 v5 v6 v7 = some rz → ∀ {H : Heap} {locs : List Loc} {ls : Array Slot}, mc_P mc_k 152 w I R H → va_S (mc_A 152 w) s.heap H locs → lv_has ls 13 [(0, .ref (w.2.2.1 144)), (1, .int v1), (2, .int v2), (3, .int v3), (4, .int v4), (5, .int v5), (6, .int v6), (7, .int v7)] → W p l e ({ frames := 6, cells := 0, slots := 0, locals := 127 } : Room) s m args below meth c H locs 0 0 (MQ below (mc_Q (some (.int rz)) (fun t => mc_B mc_k 152 w I R t ∧ ¬ (rz ≠ 0 ∧ rz ≠ 1)) (mc_A 152 w)) args s 0 0 (mc_A 152 w)) (F0 m 24 ls []) := by
  intro n
  induction n with
  | zero =>
    intro v1 v2 v3 v4 v5 v6 v7 h
    cases h
  | succ n ih =>
    intro v1 v2 v3 v4 v5 v6 v7 h
    exact bk_L_bottles_B24 C hr hlk K  ih v1 v2 v3 v4 v5 v6 v7 h
set_option maxHeartbeats 4000000 in
set_option maxRecDepth 100000 in
theorem ct_L_bottles (l : Launch) {w : mc_w} {I : Nat → Nat → Int32} {R : Nat → Nat → Option Nat} {F : Nat} {rz : Int32} (h : mi_L_bottles F I R = some rz) : Met l yL_bottles (Cond.code yL_bottles cL_bottles 13 (some .boolean) :: mc_big) ({ frames := 6, cells := 0, slots := 0, locals := 127 } : Room) (va_Pc [.ref (w.2.2.1 144)] (mc_B mc_k 152 w I R)) (mc_Q (some (.int rz)) (fun t => mc_B mc_k 152 w I R t ∧ ¬ (rz ≠ 0 ∧ rz ≠ 1)) (mc_A 152 w)) 0 0 (mc_A 152 w) := by
  refine Met.ofW (cc := cL_bottles) (maxL := 13) (ret := (some .boolean)) (by decide) rfl ?_
  intro p e s m args below meth c s₁ B hml hv
  obtain ⟨rfl, hP, K⟩ := hv
  have hown : s.vm.findClass RL = some m.cls := findClass_of_methodNamed B.named
  have C : CallFix p m c cL_bottles 13 s _ mc_big RL := ⟨B.exec, B.bytes, hml, hown, fun w hw => atoms_spec B.pre w (List.mem_cons_of_mem _ hw)⟩
  have hx := C.1
  have hb := C.2.1
  have hC := And.intro C.1 C.2.1
  have hr := B.returns
  have hlk := B.notSynchronized
  have hS : va_S (mc_A 152 w) s.heap s.heap [] := va_S.rf
  have hl := lv_entry ([.ref (w.2.2.1 144)]) (n := 13) (Nat.le_of_ble_eq_true rfl)
  rw [lg_entry_eq]
  generalize (lg_sl ([.ref (w.2.2.1 144)]) ++ List.replicate (13 - (lg_sl ([.ref (w.2.2.1 144)])).length) Slot.unset).toArray = ls at hl ⊢
  have hl : lv_has ls 13 [(0, .ref (w.2.2.1 144))] := hl
  unfold mi_L_bottles at h
  refine lv_aload_n hx hb dL_bottles_0 rfl (lv_at hl 0 rfl) ?_
  refine lv_iconst (v := 5) hx hb dL_bottles_1 (by decide) ?_
  obtain ⟨r1, e2, h⟩ := mc_ob_e h
  refine mg_Vi (As := [.int 5]) (rest := []) (ct_X8_count l (w := w) (I := I) (R := R) e2) C K hP hS hl.1 kf_144 (by decide) rfl rfl ml_L_10 wy_X8_count wd_X8_count rfl rfl rfl ⟨Nat.le_of_ble_eq_true rfl, Nat.le_of_ble_eq_true rfl⟩ (Nat.le_of_ble_eq_true rfl) ⟨Nat.zero_le _, Nat.zero_le _⟩ dL_bottles_2 (fun H locs hP hS => ?_)
  refine lv_istore_n (i := 1) (lv' := [(1, .int r1), (0, .ref (w.2.2.1 144))]) hx hb dL_bottles_5 rfl hl (by decide) rfl (fun ls hl => ?_)
  refine lv_iconst (v := 0) hx hb dL_bottles_6 (by decide) ?_
  refine lv_istore_n (i := 2) (lv' := [(2, .int 0), (1, .int r1), (0, .ref (w.2.2.1 144))]) hx hb dL_bottles_7 rfl hl (by decide) rfl (fun ls hl => ?_)
  refine lv_iconst (v := 0) hx hb dL_bottles_8 (by decide) ?_
  refine lv_istore_n (i := 3) (lv' := [(3, .int 0), (2, .int 0), (1, .int r1), (0, .ref (w.2.2.1 144))]) hx hb dL_bottles_9 rfl hl (by decide) rfl (fun ls hl => ?_)
  refine lv_iconst (v := 0) hx hb dL_bottles_10 (by decide) ?_
  refine lv_istore (i := 4) (lv' := [(4, .int 0), (3, .int 0), (2, .int 0), (1, .int r1), (0, .ref (w.2.2.1 144))]) hx hb dL_bottles_11 hl (by decide) rfl (fun ls hl => ?_)
  refine lv_sipush (v := (-1005)) hx hb dL_bottles_13 (by decide) ?_
  refine lv_istore (i := 5) (lv' := [(5, .int (-1005)), (4, .int 0), (3, .int 0), (2, .int 0), (1, .int r1), (0, .ref (w.2.2.1 144))]) hx hb dL_bottles_16 hl (by decide) rfl (fun ls hl => ?_)
  refine lv_iconst (v := (-1)) hx hb dL_bottles_18 (by decide) ?_
  refine lv_istore (i := 6) (lv' := [(6, .int (-1)), (5, .int (-1005)), (4, .int 0), (3, .int 0), (2, .int 0), (1, .int r1), (0, .ref (w.2.2.1 144))]) hx hb dL_bottles_19 hl (by decide) rfl (fun ls hl => ?_)
  refine lv_iconst (v := 0) hx hb dL_bottles_21 (by decide) ?_
  refine lv_istore (i := 7) (lv' := [(7, .int 0), (6, .int (-1)), (5, .int (-1005)), (4, .int 0), (3, .int 0), (2, .int 0), (1, .int r1), (0, .ref (w.2.2.1 144))]) hx hb dL_bottles_22 hl (by decide) rfl (fun ls hl => ?_)
  exact bk_L_bottles_L24 C hr hlk K  F r1 0 0 0 (-1005) (-1) 0 h  hP hS (lv_sub hl [7, 6, 5, 4, 3, 2, 1, 0] rfl)
set_option maxHeartbeats 4000000 in
set_option maxRecDepth 100000 in
theorem bk_L_hangs_J307 {p : Program} {l : Launch} {e : Env} {s : State} {m : MethodId} {args : Array Value} {below : List Frame} {meth : Method} {c : Code} (C : CallFix p m c cL_hangs 6 s args mc_big RL) (hr : meth.sig.returnType = (some .boolean)) (hlk : meth.locks = false) {w : mc_w} (K : mc_K mc_k 152 w s) {I : Nat → Nat → Int32} {R : Nat → Nat → Option Nat} {F : Nat} {rz : Int32} : ∀ (s0 : Int32) (s1 : Int32), mi_L_hangs_J307 F I R s0 s1 = some rz → ∀ {H : Heap} {locs : List Loc} {ls : Array Slot}, mc_P mc_k 152 w I R H → va_S (mc_A 152 w) s.heap H locs → lv_has ls 6 [(0, .ref (w.2.2.1 144))] → W p l e ({ frames := 7, cells := 0, slots := 0, locals := 159 } : Room) s m args below meth c H locs 0 0 (MQ below (mc_Q (some (.int rz)) (fun t => mc_B mc_k 152 w I R t ∧ ¬ (rz ≠ 0 ∧ rz ≠ 1)) (mc_A 152 w)) args s 0 0 (mc_A 152 w)) (F0 m 307 ls [.int s0, .int s1]) := by
  intro s0 s1 h  H locs ls hP hS hl
  have hx := C.1
  have hb := C.2.1
  have hC := And.intro C.1 C.2.1
  unfold mi_L_hangs_J307 at h
  refine lv_icmp_ne (tgt := 321) hx hb dL_hangs_307 (by decide) (fun c39 => ?_) (fun c39 => ?_)
  · replace h := mc_ie h c39
    refine lv_iconst (v := 0) hx hb dL_hangs_321 (by decide) ?_
    cases h
    exact mt_zX hC hr hlk K hP hS (by decide) (by decide) dL_hangs_322
  · replace h := mc_it h c39
    refine lv_aload_n hx hb dL_hangs_310 rfl (lv_at hl 0 rfl) ?_
    obtain ⟨r40, e41, h⟩ := mc_ob_e h
    refine mg_Sz (As := [.ref (w.2.2.1 144)]) (rest := []) (ct_L_bottles l (w := w) (I := I) (R := R) e41) C K hP hS hl.1 ml_L_33 wy_L_bottles wd_L_bottles rfl rfl rfl ⟨Nat.le_of_ble_eq_true rfl, Nat.le_of_ble_eq_true rfl⟩ (Nat.le_of_ble_eq_true rfl) ⟨Nat.zero_le _, Nat.zero_le _⟩ dL_hangs_311 (fun H locs hP z42 hS => ?_)
    refine lv_if_eq (tgt := 321) hx hb dL_hangs_314 (by decide) (fun c43 => ?_) (fun c43 => ?_)
    · replace h := mc_it h c43
      refine lv_iconst (v := 0) hx hb dL_hangs_321 (by decide) ?_
      cases h
      exact mt_zX hC hr hlk K hP hS (by decide) (by decide) dL_hangs_322
    · replace h := mc_ie h c43
      refine lv_iconst (v := 1) hx hb dL_hangs_317 (by decide) ?_
      refine lv_goto (tgt := 322) hx hb dL_hangs_318 (by decide) ?_
      cases h
      exact mt_zX hC hr hlk K hP hS (by decide) (by decide) dL_hangs_322
set_option maxHeartbeats 4000000 in
set_option maxRecDepth 100000 in
theorem bk_L_hangs_J230 {p : Program} {l : Launch} {e : Env} {s : State} {m : MethodId} {args : Array Value} {below : List Frame} {meth : Method} {c : Code} (C : CallFix p m c cL_hangs 6 s args mc_big RL) (hr : meth.sig.returnType = (some .boolean)) (hlk : meth.locks = false) {w : mc_w} (K : mc_K mc_k 152 w s) {I : Nat → Nat → Int32} {R : Nat → Nat → Option Nat} {F : Nat} {rz : Int32} : ∀ (v2 : Int32) (v3 : Int32) (v4 : Int32) (s0 : Int32), mi_L_hangs_J230 F I R v2 v3 v4 s0 = some rz → ∀ {H : Heap} {locs : List Loc} {ls : Array Slot}, mc_P mc_k 152 w I R H → va_S (mc_A 152 w) s.heap H locs → lv_has ls 6 [(0, .ref (w.2.2.1 144)), (2, .int v2), (3, .int v3), (4, .int v4)] → W p l e ({ frames := 7, cells := 0, slots := 0, locals := 159 } : Room) s m args below meth c H locs 0 0 (MQ below (mc_Q (some (.int rz)) (fun t => mc_B mc_k 152 w I R t ∧ ¬ (rz ≠ 0 ∧ rz ≠ 1)) (mc_A 152 w)) args s 0 0 (mc_A 152 w)) (F0 m 230 ls [.int s0]) := by
  intro v2 v3 v4 s0 h  H locs ls hP hS hl
  have hx := C.1
  have hb := C.2.1
  have hC := And.intro C.1 C.2.1
  unfold mi_L_hangs_J230 at h
  refine lv_istore (i := 5) (lv' := [(5, .int s0), (0, .ref (w.2.2.1 144)), (2, .int v2), (3, .int v3), (4, .int v4)]) hx hb dL_hangs_230 hl (by decide) rfl (fun ls hl => ?_)
  refine lv_iload hx hb dL_hangs_232 (lv_at hl 0 rfl) ?_
  refine lv_if_eq (tgt := 321) hx hb dL_hangs_234 (by decide) (fun c19 => ?_) (fun c19 => ?_)
  · replace h := mc_it h c19
    refine lv_iconst (v := 0) hx hb dL_hangs_321 (by decide) ?_
    cases h
    exact mt_zX hC hr hlk K hP hS (by decide) (by decide) dL_hangs_322
  · replace h := mc_ie h c19
    refine lv_iload_n hx hb dL_hangs_237 rfl (lv_at hl 3 rfl) ?_
    refine lv_aload_n hx hb dL_hangs_238 rfl (lv_at hl 1 rfl) ?_
    refine lv_bipush (v := 7) hx hb dL_hangs_239 (by decide) ?_
    obtain ⟨r20, e21, h⟩ := mc_ob_e h
    refine mg_Vi (As := [.int 7]) (rest := [.int v3]) (ct_X8_count l (w := w) (I := I) (R := R) e21) C K hP hS hl.1 kf_144 (by decide) rfl rfl ml_L_10 wy_X8_count wd_X8_count rfl rfl rfl ⟨Nat.le_of_ble_eq_true rfl, Nat.le_of_ble_eq_true rfl⟩ (Nat.le_of_ble_eq_true rfl) ⟨Nat.zero_le _, Nat.zero_le _⟩ dL_hangs_241 (fun H locs hP hS => ?_)
    refine lv_icmp_ne (tgt := 321) hx hb dL_hangs_244 (by decide) (fun c22 => ?_) (fun c22 => ?_)
    · replace h := mc_ie h c22
      refine lv_iconst (v := 0) hx hb dL_hangs_321 (by decide) ?_
      cases h
      exact mt_zX hC hr hlk K hP hS (by decide) (by decide) dL_hangs_322
    · replace h := mc_it h c22
      refine lv_iload_n hx hb dL_hangs_247 rfl (lv_at hl 2 rfl) ?_
      refine lv_iload hx hb dL_hangs_248 (lv_at hl 4 rfl) ?_
      refine lv_iadd hx hb dL_hangs_250 ?_
      refine lv_aload_n hx hb dL_hangs_251 rfl (lv_at hl 1 rfl) ?_
      refine lv_iconst (v := 5) hx hb dL_hangs_252 (by decide) ?_
      obtain ⟨r23, e24, h⟩ := mc_ob_e h
      refine mg_Vi (As := [.int 5]) (rest := [.int (v2 + v4)]) (ct_X8_count l (w := w) (I := I) (R := R) e24) C K hP hS hl.1 kf_144 (by decide) rfl rfl ml_L_10 wy_X8_count wd_X8_count rfl rfl rfl ⟨Nat.le_of_ble_eq_true rfl, Nat.le_of_ble_eq_true rfl⟩ (Nat.le_of_ble_eq_true rfl) ⟨Nat.zero_le _, Nat.zero_le _⟩ dL_hangs_253 (fun H locs hP hS => ?_)
      refine lv_aload_n hx hb dL_hangs_256 rfl (lv_at hl 1 rfl) ?_
      refine lv_bipush (v := 7) hx hb dL_hangs_257 (by decide) ?_
      obtain ⟨r25, e26, h⟩ := mc_ob_e h
      refine mg_Vi (As := [.int 7]) (rest := [.int r23, .int (v2 + v4)]) (ct_X8_count l (w := w) (I := I) (R := R) e26) C K hP hS hl.1 kf_144 (by decide) rfl rfl ml_L_10 wy_X8_count wd_X8_count rfl rfl rfl ⟨Nat.le_of_ble_eq_true rfl, Nat.le_of_ble_eq_true rfl⟩ (Nat.le_of_ble_eq_true rfl) ⟨Nat.zero_le _, Nat.zero_le _⟩ dL_hangs_259 (fun H locs hP hS => ?_)
      refine lv_isub hx hb dL_hangs_262 ?_
      refine lv_icmp_ne (tgt := 321) hx hb dL_hangs_263 (by decide) (fun c27 => ?_) (fun c27 => ?_)
      · replace h := mc_ie h c27
        refine lv_iconst (v := 0) hx hb dL_hangs_321 (by decide) ?_
        cases h
        exact mt_zX hC hr hlk K hP hS (by decide) (by decide) dL_hangs_322
      · replace h := mc_it h c27
        refine lv_aload_n hx hb dL_hangs_266 rfl (lv_at hl 1 rfl) ?_
        refine lv_iconst (v := 3) hx hb dL_hangs_267 (by decide) ?_
        obtain ⟨r28, e29, h⟩ := mc_ob_e h
        refine mg_Vi (As := [.int 3]) (rest := []) (ct_X8_count l (w := w) (I := I) (R := R) e29) C K hP hS hl.1 kf_144 (by decide) rfl rfl ml_L_10 wy_X8_count wd_X8_count rfl rfl rfl ⟨Nat.le_of_ble_eq_true rfl, Nat.le_of_ble_eq_true rfl⟩ (Nat.le_of_ble_eq_true rfl) ⟨Nat.zero_le _, Nat.zero_le _⟩ dL_hangs_268 (fun H locs hP hS => ?_)
        refine lv_aload_n hx hb dL_hangs_271 rfl (lv_at hl 1 rfl) ?_
        refine lv_iconst (v := 2) hx hb dL_hangs_272 (by decide) ?_
        obtain ⟨r30, e31, h⟩ := mc_ob_e h
        refine mg_Vi (As := [.int 2]) (rest := [.int r28]) (ct_X8_count l (w := w) (I := I) (R := R) e31) C K hP hS hl.1 kf_144 (by decide) rfl rfl ml_L_10 wy_X8_count wd_X8_count rfl rfl rfl ⟨Nat.le_of_ble_eq_true rfl, Nat.le_of_ble_eq_true rfl⟩ (Nat.le_of_ble_eq_true rfl) ⟨Nat.zero_le _, Nat.zero_le _⟩ dL_hangs_273 (fun H locs hP hS => ?_)
        refine lv_iconst (v := 2) hx hb dL_hangs_276 (by decide) ?_
        refine lv_aload_n hx hb dL_hangs_277 rfl (lv_at hl 1 rfl) ?_
        refine lv_iconst (v := 4) hx hb dL_hangs_278 (by decide) ?_
        obtain ⟨r32, e33, h⟩ := mc_ob_e h
        refine mg_Vi (As := [.int 4]) (rest := [.int 2, .int r30, .int r28]) (ct_X8_count l (w := w) (I := I) (R := R) e33) C K hP hS hl.1 kf_144 (by decide) rfl rfl ml_L_10 wy_X8_count wd_X8_count rfl rfl rfl ⟨Nat.le_of_ble_eq_true rfl, Nat.le_of_ble_eq_true rfl⟩ (Nat.le_of_ble_eq_true rfl) ⟨Nat.zero_le _, Nat.zero_le _⟩ dL_hangs_279 (fun H locs hP hS => ?_)
        refine lv_imul hx hb dL_hangs_282 ?_
        refine lv_iadd hx hb dL_hangs_283 ?_
        refine lv_bipush (v := 6) hx hb dL_hangs_284 (by decide) ?_
        refine lv_icmp_le (tgt := 294) hx hb dL_hangs_286 (by decide) (fun c34 => ?_) (fun c34 => ?_)
        · replace h := mc_it h c34
          refine lv_aload_n hx hb dL_hangs_294 rfl (lv_at hl 1 rfl) ?_
          refine lv_iconst (v := 2) hx hb dL_hangs_295 (by decide) ?_
          obtain ⟨r35, e36, h⟩ := mc_ob_e h
          refine mg_Vi (As := [.int 2]) (rest := [.int r28]) (ct_X8_count l (w := w) (I := I) (R := R) e36) C K hP hS hl.1 kf_144 (by decide) rfl rfl ml_L_10 wy_X8_count wd_X8_count rfl rfl rfl ⟨Nat.le_of_ble_eq_true rfl, Nat.le_of_ble_eq_true rfl⟩ (Nat.le_of_ble_eq_true rfl) ⟨Nat.zero_le _, Nat.zero_le _⟩ dL_hangs_296 (fun H locs hP hS => ?_)
          refine lv_iconst (v := 2) hx hb dL_hangs_299 (by decide) ?_
          refine lv_aload_n hx hb dL_hangs_300 rfl (lv_at hl 1 rfl) ?_
          refine lv_iconst (v := 4) hx hb dL_hangs_301 (by decide) ?_
          obtain ⟨r37, e38, h⟩ := mc_ob_e h
          refine mg_Vi (As := [.int 4]) (rest := [.int 2, .int r35, .int r28]) (ct_X8_count l (w := w) (I := I) (R := R) e38) C K hP hS hl.1 kf_144 (by decide) rfl rfl ml_L_10 wy_X8_count wd_X8_count rfl rfl rfl ⟨Nat.le_of_ble_eq_true rfl, Nat.le_of_ble_eq_true rfl⟩ (Nat.le_of_ble_eq_true rfl) ⟨Nat.zero_le _, Nat.zero_le _⟩ dL_hangs_302 (fun H locs hP hS => ?_)
          refine lv_imul hx hb dL_hangs_305 ?_
          refine lv_iadd hx hb dL_hangs_306 ?_
          exact bk_L_hangs_J307 C hr hlk K  (r35 + (2 * r37)) r28 h  hP hS (lv_sub hl [1] rfl)
        · replace h := mc_ie h c34
          refine lv_bipush (v := 6) hx hb dL_hangs_289 (by decide) ?_
          refine lv_goto (tgt := 307) hx hb dL_hangs_291 (by decide) ?_
          exact bk_L_hangs_J307 C hr hlk K  6 r28 h  hP hS (lv_sub hl [1] rfl)
set_option maxHeartbeats 4000000 in
set_option maxRecDepth 100000 in
theorem bk_L_hangs_B129 {p : Program} {l : Launch} {e : Env} {s : State} {m : MethodId} {args : Array Value} {below : List Frame} {meth : Method} {c : Code} (C : CallFix p m c cL_hangs 6 s args mc_big RL) (hr : meth.sig.returnType = (some .boolean)) (hlk : meth.locks = false) {w : mc_w} (K : mc_K mc_k 152 w s) {I : Nat → Nat → Int32} {R : Nat → Nat → Option Nat} {F : Nat} {rz : Int32} {k129 : (Nat → Nat → Int32) → (Nat → Nat → Option Nat) → Int32 → Int32 → Int32 → Int32 → Int32 → Option (Int32)} (hk129 : ∀ (v1 : Int32) (v2 : Int32) (v3 : Int32) (v4 : Int32) (v5 : Int32), k129 I R v1 v2 v3 v4 v5 = some rz → ∀ {H : Heap} {locs : List Loc} {ls : Array Slot}, mc_P mc_k 152 w I R H → va_S (mc_A 152 w) s.heap H locs → lv_has ls 6 [(0, .ref (w.2.2.1 144)), (1, .int v1), (2, .int v2), (3, .int v3), (4, .int v4), (5, .int v5)] → W p l e ({ frames := 7, cells := 0, slots := 0, locals := 159 } : Room) s m args below meth c H locs 0 0 (MQ below (mc_Q (some (.int rz)) (fun t => mc_B mc_k 152 w I R t ∧ ¬ (rz ≠ 0 ∧ rz ≠ 1)) (mc_A 152 w)) args s 0 0 (mc_A 152 w)) (F0 m 129 ls [])) : ∀ (v1 : Int32) (v2 : Int32) (v3 : Int32) (v4 : Int32) (v5 : Int32), mi_L_hangs_B129 k129 F I R v1 v2 v3 v4 v5 = some rz → ∀ {H : Heap} {locs : List Loc} {ls : Array Slot}, mc_P mc_k 152 w I R H → va_S (mc_A 152 w) s.heap H locs → lv_has ls 6 [(0, .ref (w.2.2.1 144)), (1, .int v1), (2, .int v2), (3, .int v3), (4, .int v4), (5, .int v5)] → W p l e ({ frames := 7, cells := 0, slots := 0, locals := 159 } : Room) s m args below meth c H locs 0 0 (MQ below (mc_Q (some (.int rz)) (fun t => mc_B mc_k 152 w I R t ∧ ¬ (rz ≠ 0 ∧ rz ≠ 1)) (mc_A 152 w)) args s 0 0 (mc_A 152 w)) (F0 m 129 ls []) := by
  intro v1 v2 v3 v4 v5 h  H locs ls hP hS hl
  have hx := C.1
  have hb := C.2.1
  have hC := And.intro C.1 C.2.1
  unfold mi_L_hangs_B129 at h
  refine lv_iload hx hb dL_hangs_129 (lv_at hl 5 rfl) ?_
  refine lv_aload_n hx hb dL_hangs_131 rfl (lv_at hl 0 rfl) ?_
  refine lv_iconst (v := 5) hx hb dL_hangs_132 (by decide) ?_
  obtain ⟨r5, e6, h⟩ := mc_ob_e h
  refine mg_Vi (As := [.int 5]) (rest := [.int v5]) (ct_X8_count l (w := w) (I := I) (R := R) e6) C K hP hS hl.1 kf_144 (by decide) rfl rfl ml_L_10 wy_X8_count wd_X8_count rfl rfl rfl ⟨Nat.le_of_ble_eq_true rfl, Nat.le_of_ble_eq_true rfl⟩ (Nat.le_of_ble_eq_true rfl) ⟨Nat.zero_le _, Nat.zero_le _⟩ dL_hangs_133 (fun H locs hP hS => ?_)
  refine lv_icmp_ge (tgt := 175) hx hb dL_hangs_136 (by decide) (fun c7 => ?_) (fun c7 => ?_)
  · replace h := mc_it h c7
    refine lv_aload_n hx hb dL_hangs_175 rfl (lv_at hl 0 rfl) ?_
    refine lv_bipush (v := 10) hx hb dL_hangs_176 (by decide) ?_
    obtain ⟨r8, e9, h⟩ := mc_ob_e h
    refine mg_Vi (As := [.int 10]) (rest := []) (ct_X8_count l (w := w) (I := I) (R := R) e9) C K hP hS hl.1 kf_144 (by decide) rfl rfl ml_L_10 wy_X8_count wd_X8_count rfl rfl rfl ⟨Nat.le_of_ble_eq_true rfl, Nat.le_of_ble_eq_true rfl⟩ (Nat.le_of_ble_eq_true rfl) ⟨Nat.zero_le _, Nat.zero_le _⟩ dL_hangs_178 (fun H locs hP hS => ?_)
    refine lv_aload_n hx hb dL_hangs_181 rfl (lv_at hl 0 rfl) ?_
    refine lv_bipush (v := 11) hx hb dL_hangs_182 (by decide) ?_
    obtain ⟨r10, e11, h⟩ := mc_ob_e h
    refine mg_Vi (As := [.int 11]) (rest := [.int r8]) (ct_X8_count l (w := w) (I := I) (R := R) e11) C K hP hS hl.1 kf_144 (by decide) rfl rfl ml_L_10 wy_X8_count wd_X8_count rfl rfl rfl ⟨Nat.le_of_ble_eq_true rfl, Nat.le_of_ble_eq_true rfl⟩ (Nat.le_of_ble_eq_true rfl) ⟨Nat.zero_le _, Nat.zero_le _⟩ dL_hangs_184 (fun H locs hP hS => ?_)
    refine lv_iadd hx hb dL_hangs_187 ?_
    refine lv_iload_n hx hb dL_hangs_188 rfl (lv_at hl 1 rfl) ?_
    refine lv_aload_n hx hb dL_hangs_189 rfl (lv_at hl 0 rfl) ?_
    refine lv_bipush (v := 12) hx hb dL_hangs_190 (by decide) ?_
    obtain ⟨r12, e13, h⟩ := mc_ob_e h
    refine mg_Vi (As := [.int 12]) (rest := [.int v1, .int (r8 + r10)]) (ct_X8_count l (w := w) (I := I) (R := R) e13) C K hP hS hl.1 kf_144 (by decide) rfl rfl ml_L_10 wy_X8_count wd_X8_count rfl rfl rfl ⟨Nat.le_of_ble_eq_true rfl, Nat.le_of_ble_eq_true rfl⟩ (Nat.le_of_ble_eq_true rfl) ⟨Nat.zero_le _, Nat.zero_le _⟩ dL_hangs_192 (fun H locs hP hS => ?_)
    refine lv_iadd hx hb dL_hangs_195 ?_
    refine lv_aload_n hx hb dL_hangs_196 rfl (lv_at hl 0 rfl) ?_
    refine lv_bipush (v := 13) hx hb dL_hangs_197 (by decide) ?_
    obtain ⟨r14, e15, h⟩ := mc_ob_e h
    refine mg_Vi (As := [.int 13]) (rest := [.int (v1 + r12), .int (r8 + r10)]) (ct_X8_count l (w := w) (I := I) (R := R) e15) C K hP hS hl.1 kf_144 (by decide) rfl rfl ml_L_10 wy_X8_count wd_X8_count rfl rfl rfl ⟨Nat.le_of_ble_eq_true rfl, Nat.le_of_ble_eq_true rfl⟩ (Nat.le_of_ble_eq_true rfl) ⟨Nat.zero_le _, Nat.zero_le _⟩ dL_hangs_199 (fun H locs hP hS => ?_)
    refine lv_iadd hx hb dL_hangs_202 ?_
    refine lv_aload_n hx hb dL_hangs_203 rfl (lv_at hl 0 rfl) ?_
    refine lv_bipush (v := 14) hx hb dL_hangs_204 (by decide) ?_
    obtain ⟨r16, e17, h⟩ := mc_ob_e h
    refine mg_Vi (As := [.int 14]) (rest := [.int ((v1 + r12) + r14), .int (r8 + r10)]) (ct_X8_count l (w := w) (I := I) (R := R) e17) C K hP hS hl.1 kf_144 (by decide) rfl rfl ml_L_10 wy_X8_count wd_X8_count rfl rfl rfl ⟨Nat.le_of_ble_eq_true rfl, Nat.le_of_ble_eq_true rfl⟩ (Nat.le_of_ble_eq_true rfl) ⟨Nat.zero_le _, Nat.zero_le _⟩ dL_hangs_206 (fun H locs hP hS => ?_)
    refine lv_iadd hx hb dL_hangs_209 ?_
    refine lv_icmp_ne (tgt := 229) hx hb dL_hangs_210 (by decide) (fun c18 => ?_) (fun c18 => ?_)
    · replace h := mc_ie h c18
      refine lv_iconst (v := 0) hx hb dL_hangs_229 (by decide) ?_
      exact bk_L_hangs_J230 C hr hlk K  v2 v3 v4 0 h  hP hS (lv_sub hl [0, 2, 3, 4] rfl)
    · replace h := mc_it h c18
      refine lv_aload_n hx hb dL_hangs_213 rfl (lv_at hl 0 rfl) ?_
      refine lv_iload_n hx hb dL_hangs_214 rfl (lv_at hl 1 rfl) ?_
      refine lv_iconst (v := 0) hx hb dL_hangs_215 (by decide) ?_
      obtain ⟨r44, e45, h⟩ := mc_ob_e h
      refine mg_Vi (As := [.int v1, .int 0]) (rest := []) (ct_X8_messenger l (w := w) (I := I) (R := R) e45) C K hP hS hl.1 kf_144 (by decide) rfl rfl ml_L_27 wy_X8_messenger wd_X8_messenger rfl rfl rfl ⟨Nat.le_of_ble_eq_true rfl, Nat.le_of_ble_eq_true rfl⟩ (Nat.le_of_ble_eq_true rfl) ⟨Nat.zero_le _, Nat.zero_le _⟩ dL_hangs_216 (fun H locs hP hS => ?_)
      refine lv_sipush (v := (-1005)) hx hb dL_hangs_219 (by decide) ?_
      refine lv_icmp_ne (tgt := 229) hx hb dL_hangs_222 (by decide) (fun c46 => ?_) (fun c46 => ?_)
      · replace h := mc_ie h c46
        refine lv_iconst (v := 0) hx hb dL_hangs_229 (by decide) ?_
        exact bk_L_hangs_J230 C hr hlk K  v2 v3 v4 0 h  hP hS (lv_sub hl [0, 2, 3, 4] rfl)
      · replace h := mc_it h c46
        refine lv_iconst (v := 1) hx hb dL_hangs_225 (by decide) ?_
        refine lv_goto (tgt := 230) hx hb dL_hangs_226 (by decide) ?_
        exact bk_L_hangs_J230 C hr hlk K  v2 v3 v4 1 h  hP hS (lv_sub hl [0, 2, 3, 4] rfl)
  · replace h := mc_ie h c7
    refine lv_iload hx hb dL_hangs_139 (lv_at hl 4 rfl) ?_
    refine lv_aload_n hx hb dL_hangs_141 rfl (lv_at hl 0 rfl) ?_
    refine lv_iload hx hb dL_hangs_142 (lv_at hl 5 rfl) ?_
    refine lv_iconst (v := 3) hx hb dL_hangs_144 (by decide) ?_
    obtain ⟨r47, e48, h⟩ := mc_ob_e h
    refine mg_Vi (As := [.int v5, .int 3]) (rest := [.int v4]) (ct_X8_bottle l (w := w) (I := I) (R := R) e48) C K hP hS hl.1 kf_144 (by decide) rfl rfl ml_L_16 wy_X8_bottle wd_X8_bottle rfl rfl rfl ⟨Nat.le_of_ble_eq_true rfl, Nat.le_of_ble_eq_true rfl⟩ (Nat.le_of_ble_eq_true rfl) ⟨Nat.zero_le _, Nat.zero_le _⟩ dL_hangs_145 (fun H locs hP hS => ?_)
    refine lv_if_ne (tgt := 165) hx hb dL_hangs_148 (by decide) (fun c49 => ?_) (fun c49 => ?_)
    · replace h := mc_ie h c49
      refine lv_iconst (v := 0) hx hb dL_hangs_165 (by decide) ?_
      refine lv_iadd hx hb dL_hangs_166 ?_
      obtain ⟨x50, ex50, h⟩ := mc_bn_e h
      refine mv_top ex50 ?_
      refine lv_istore (i := 4) (lv' := [(4, .int x50), (0, .ref (w.2.2.1 144)), (1, .int v1), (2, .int v2), (3, .int v3), (5, .int v5)]) hx hb dL_hangs_167 hl (by decide) rfl (fun ls hl => ?_)
      obtain ⟨x51, ex51, h⟩ := mc_bn_e h
      refine lv_iinc (v := x51) (lv' := [(5, .int x51), (4, .int x50), (0, .ref (w.2.2.1 144)), (1, .int v1), (2, .int v2), (3, .int v3)]) hx hb dL_hangs_169 hl (k := 5) rfl (by rw [ex51]; rfl) (by decide) rfl (fun ls hl => ?_)
      refine lv_goto (tgt := 129) hx hb dL_hangs_172 (by decide) ?_
      exact hk129 v1 v2 v3 x50 x51 h  hP hS (lv_sub hl [2, 3, 4, 5, 1, 0] rfl)
    · replace h := mc_it h c49
      refine lv_aload_n hx hb dL_hangs_151 rfl (lv_at hl 0 rfl) ?_
      refine lv_iload hx hb dL_hangs_152 (lv_at hl 5 rfl) ?_
      refine lv_iconst (v := 1) hx hb dL_hangs_154 (by decide) ?_
      obtain ⟨r52, e53, h⟩ := mc_ob_e h
      refine mg_Vi (As := [.int v5, .int 1]) (rest := [.int v4]) (ct_X8_bottle l (w := w) (I := I) (R := R) e53) C K hP hS hl.1 kf_144 (by decide) rfl rfl ml_L_16 wy_X8_bottle wd_X8_bottle rfl rfl rfl ⟨Nat.le_of_ble_eq_true rfl, Nat.le_of_ble_eq_true rfl⟩ (Nat.le_of_ble_eq_true rfl) ⟨Nat.zero_le _, Nat.zero_le _⟩ dL_hangs_155 (fun H locs hP hS => ?_)
      refine lv_if_ne (tgt := 165) hx hb dL_hangs_158 (by decide) (fun c54 => ?_) (fun c54 => ?_)
      · replace h := mc_ie h c54
        refine lv_iconst (v := 0) hx hb dL_hangs_165 (by decide) ?_
        refine lv_iadd hx hb dL_hangs_166 ?_
        obtain ⟨x55, ex55, h⟩ := mc_bn_e h
        refine mv_top ex55 ?_
        refine lv_istore (i := 4) (lv' := [(4, .int x55), (0, .ref (w.2.2.1 144)), (1, .int v1), (2, .int v2), (3, .int v3), (5, .int v5)]) hx hb dL_hangs_167 hl (by decide) rfl (fun ls hl => ?_)
        obtain ⟨x56, ex56, h⟩ := mc_bn_e h
        refine lv_iinc (v := x56) (lv' := [(5, .int x56), (4, .int x55), (0, .ref (w.2.2.1 144)), (1, .int v1), (2, .int v2), (3, .int v3)]) hx hb dL_hangs_169 hl (k := 5) rfl (by rw [ex56]; rfl) (by decide) rfl (fun ls hl => ?_)
        refine lv_goto (tgt := 129) hx hb dL_hangs_172 (by decide) ?_
        exact hk129 v1 v2 v3 x55 x56 h  hP hS (lv_sub hl [2, 3, 4, 5, 1, 0] rfl)
      · replace h := mc_it h c54
        refine lv_iconst (v := 1) hx hb dL_hangs_161 (by decide) ?_
        refine lv_goto (tgt := 166) hx hb dL_hangs_162 (by decide) ?_
        refine lv_iadd hx hb dL_hangs_166 ?_
        obtain ⟨x57, ex57, h⟩ := mc_bn_e h
        refine mv_top ex57 ?_
        refine lv_istore (i := 4) (lv' := [(4, .int x57), (0, .ref (w.2.2.1 144)), (1, .int v1), (2, .int v2), (3, .int v3), (5, .int v5)]) hx hb dL_hangs_167 hl (by decide) rfl (fun ls hl => ?_)
        obtain ⟨x58, ex58, h⟩ := mc_bn_e h
        refine lv_iinc (v := x58) (lv' := [(5, .int x58), (4, .int x57), (0, .ref (w.2.2.1 144)), (1, .int v1), (2, .int v2), (3, .int v3)]) hx hb dL_hangs_169 hl (k := 5) rfl (by rw [ex58]; rfl) (by decide) rfl (fun ls hl => ?_)
        refine lv_goto (tgt := 129) hx hb dL_hangs_172 (by decide) ?_
        exact hk129 v1 v2 v3 x57 x58 h  hP hS (lv_sub hl [2, 3, 4, 5, 1, 0] rfl)
theorem bk_L_hangs_L129 {p : Program} {l : Launch} {e : Env} {s : State} {m : MethodId} {args : Array Value} {below : List Frame} {meth : Method} {c : Code} (C : CallFix p m c cL_hangs 6 s args mc_big RL) (hr : meth.sig.returnType = (some .boolean)) (hlk : meth.locks = false) {w : mc_w} (K : mc_K mc_k 152 w s) {I : Nat → Nat → Int32} {R : Nat → Nat → Option Nat} {F : Nat} {rz : Int32} : ∀ n : Nat, ∀ (v1 : Int32) (v2 : Int32) (v3 : Int32) (v4 : Int32) (v5 : Int32), mi_L_hangs_L129 F n I R v1 v2 v3 v4 v5 = some rz → ∀ {H : Heap} {locs : List Loc} {ls : Array Slot}, mc_P mc_k 152 w I R H → va_S (mc_A 152 w) s.heap H locs → lv_has ls 6 [(0, .ref (w.2.2.1 144)), (1, .int v1), (2, .int v2), (3, .int v3), (4, .int v4), (5, .int v5)] → W p l e ({ frames := 7, cells := 0, slots := 0, locals := 159 } : Room) s m args below meth c H locs 0 0 (MQ below (mc_Q (some (.int rz)) (fun t => mc_B mc_k 152 w I R t ∧ ¬ (rz ≠ 0 ∧ rz ≠ 1)) (mc_A 152 w)) args s 0 0 (mc_A 152 w)) (F0 m 129 ls []) := by
  intro n
  induction n with
  | zero =>
    intro v1 v2 v3 v4 v5 h
    cases h
  | succ n ih =>
    intro v1 v2 v3 v4 v5 h
    exact bk_L_hangs_B129 C hr hlk K  ih v1 v2 v3 v4 v5 h
set_option maxHeartbeats 4000000 in
set_option maxRecDepth 100000 in
theorem bk_L_hangs_B90 {p : Program} {l : Launch} {e : Env} {s : State} {m : MethodId} {args : Array Value} {below : List Frame} {meth : Method} {c : Code} (C : CallFix p m c cL_hangs 6 s args mc_big RL) (hr : meth.sig.returnType = (some .boolean)) (hlk : meth.locks = false) {w : mc_w} (K : mc_K mc_k 152 w s) {I : Nat → Nat → Int32} {R : Nat → Nat → Option Nat} {F : Nat} {rz : Int32} {k90 : (Nat → Nat → Int32) → (Nat → Nat → Option Nat) → Int32 → Int32 → Int32 → Int32 → Option (Int32)} (hk90 : ∀ (v1 : Int32) (v2 : Int32) (v3 : Int32) (v4 : Int32), k90 I R v1 v2 v3 v4 = some rz → ∀ {H : Heap} {locs : List Loc} {ls : Array Slot}, mc_P mc_k 152 w I R H → va_S (mc_A 152 w) s.heap H locs → lv_has ls 6 [(0, .ref (w.2.2.1 144)), (1, .int v1), (2, .int v2), (3, .int v3), (4, .int v4)] → W p l e ({ frames := 7, cells := 0, slots := 0, locals := 159 } : Room) s m args below meth c H locs 0 0 (MQ below (mc_Q (some (.int rz)) (fun t => mc_B mc_k 152 w I R t ∧ ¬ (rz ≠ 0 ∧ rz ≠ 1)) (mc_A 152 w)) args s 0 0 (mc_A 152 w)) (F0 m 90 ls [])) : ∀ (v1 : Int32) (v2 : Int32) (v3 : Int32) (v4 : Int32), mi_L_hangs_B90 k90 F I R v1 v2 v3 v4 = some rz → ∀ {H : Heap} {locs : List Loc} {ls : Array Slot}, mc_P mc_k 152 w I R H → va_S (mc_A 152 w) s.heap H locs → lv_has ls 6 [(0, .ref (w.2.2.1 144)), (1, .int v1), (2, .int v2), (3, .int v3), (4, .int v4)] → W p l e ({ frames := 7, cells := 0, slots := 0, locals := 159 } : Room) s m args below meth c H locs 0 0 (MQ below (mc_Q (some (.int rz)) (fun t => mc_B mc_k 152 w I R t ∧ ¬ (rz ≠ 0 ∧ rz ≠ 1)) (mc_A 152 w)) args s 0 0 (mc_A 152 w)) (F0 m 90 ls []) := by
  intro v1 v2 v3 v4 h  H locs ls hP hS hl
  have hx := C.1
  have hb := C.2.1
  have hC := And.intro C.1 C.2.1
  unfold mi_L_hangs_B90 at h
  refine lv_iload hx hb dL_hangs_90 (lv_at hl 4 rfl) ?_
  refine lv_bipush (v := 10) hx hb dL_hangs_92 (by decide) ?_
  refine lv_icmp_ge (tgt := 123) hx hb dL_hangs_94 (by decide) (fun c4 => ?_) (fun c4 => ?_)
  · replace h := mc_it h c4
    refine lv_iconst (v := 0) hx hb dL_hangs_123 (by decide) ?_
    refine lv_istore (i := 4) (lv' := [(4, .int 0), (0, .ref (w.2.2.1 144)), (1, .int v1), (2, .int v2), (3, .int v3)]) hx hb dL_hangs_124 hl (by decide) rfl (fun ls hl => ?_)
    refine lv_iconst (v := 0) hx hb dL_hangs_126 (by decide) ?_
    refine lv_istore (i := 5) (lv' := [(5, .int 0), (4, .int 0), (0, .ref (w.2.2.1 144)), (1, .int v1), (2, .int v2), (3, .int v3)]) hx hb dL_hangs_127 hl (by decide) rfl (fun ls hl => ?_)
    exact bk_L_hangs_L129 C hr hlk K  F v1 v2 v3 0 0 h  hP hS (lv_sub hl [2, 3, 4, 5, 1, 0] rfl)
  · replace h := mc_ie h c4
    refine lv_iload_n hx hb dL_hangs_97 rfl (lv_at hl 2 rfl) ?_
    refine lv_aload_n hx hb dL_hangs_98 rfl (lv_at hl 0 rfl) ?_
    refine lv_iload hx hb dL_hangs_99 (lv_at hl 4 rfl) ?_
    refine lv_iconst (v := 2) hx hb dL_hangs_101 (by decide) ?_
    obtain ⟨r59, e60, h⟩ := mc_ob_e h
    refine mg_Vi (As := [.int v4, .int 2]) (rest := [.int v2]) (ct_X8_layer l (w := w) (I := I) (R := R) e60) C K hP hS hl.1 kf_144 (by decide) rfl rfl ml_L_30 wy_X8_layer wd_X8_layer rfl rfl rfl ⟨Nat.le_of_ble_eq_true rfl, Nat.le_of_ble_eq_true rfl⟩ (Nat.le_of_ble_eq_true rfl) ⟨Nat.zero_le _, Nat.zero_le _⟩ dL_hangs_102 (fun H locs hP hS => ?_)
    refine lv_iadd hx hb dL_hangs_105 ?_
    obtain ⟨x61, ex61, h⟩ := mc_bn_e h
    refine mv_top ex61 ?_
    refine lv_istore_n (i := 2) (lv' := [(2, .int x61), (0, .ref (w.2.2.1 144)), (1, .int v1), (3, .int v3), (4, .int v4)]) hx hb dL_hangs_106 rfl hl (by decide) rfl (fun ls hl => ?_)
    refine lv_iload_n hx hb dL_hangs_107 rfl (lv_at hl 3 rfl) ?_
    refine lv_aload_n hx hb dL_hangs_108 rfl (lv_at hl 1 rfl) ?_
    refine lv_iload hx hb dL_hangs_109 (lv_at hl 4 rfl) ?_
    refine lv_iconst (v := 3) hx hb dL_hangs_111 (by decide) ?_
    obtain ⟨r62, e63, h⟩ := mc_ob_e h
    refine mg_Vi (As := [.int v4, .int 3]) (rest := [.int v3]) (ct_X8_layer l (w := w) (I := I) (R := R) e63) C K hP hS hl.1 kf_144 (by decide) rfl rfl ml_L_30 wy_X8_layer wd_X8_layer rfl rfl rfl ⟨Nat.le_of_ble_eq_true rfl, Nat.le_of_ble_eq_true rfl⟩ (Nat.le_of_ble_eq_true rfl) ⟨Nat.zero_le _, Nat.zero_le _⟩ dL_hangs_112 (fun H locs hP hS => ?_)
    refine lv_iadd hx hb dL_hangs_115 ?_
    obtain ⟨x64, ex64, h⟩ := mc_bn_e h
    refine mv_top ex64 ?_
    refine lv_istore_n (i := 3) (lv' := [(3, .int x64), (2, .int x61), (0, .ref (w.2.2.1 144)), (1, .int v1), (4, .int v4)]) hx hb dL_hangs_116 rfl hl (by decide) rfl (fun ls hl => ?_)
    obtain ⟨x65, ex65, h⟩ := mc_bn_e h
    refine lv_iinc (v := x65) (lv' := [(4, .int x65), (3, .int x64), (2, .int x61), (0, .ref (w.2.2.1 144)), (1, .int v1)]) hx hb dL_hangs_117 hl (k := 4) rfl (by rw [ex65]; rfl) (by decide) rfl (fun ls hl => ?_)
    refine lv_goto (tgt := 90) hx hb dL_hangs_120 (by decide) ?_
    exact hk90 v1 x61 x64 x65 h  hP hS (lv_sub hl [3, 4, 2, 1, 0] rfl)
theorem bk_L_hangs_L90 {p : Program} {l : Launch} {e : Env} {s : State} {m : MethodId} {args : Array Value} {below : List Frame} {meth : Method} {c : Code} (C : CallFix p m c cL_hangs 6 s args mc_big RL) (hr : meth.sig.returnType = (some .boolean)) (hlk : meth.locks = false) {w : mc_w} (K : mc_K mc_k 152 w s) {I : Nat → Nat → Int32} {R : Nat → Nat → Option Nat} {F : Nat} {rz : Int32} : ∀ n : Nat, ∀ (v1 : Int32) (v2 : Int32) (v3 : Int32) (v4 : Int32), mi_L_hangs_L90 F n I R v1 v2 v3 v4 = some rz → ∀ {H : Heap} {locs : List Loc} {ls : Array Slot}, mc_P mc_k 152 w I R H → va_S (mc_A 152 w) s.heap H locs → lv_has ls 6 [(0, .ref (w.2.2.1 144)), (1, .int v1), (2, .int v2), (3, .int v3), (4, .int v4)] → W p l e ({ frames := 7, cells := 0, slots := 0, locals := 159 } : Room) s m args below meth c H locs 0 0 (MQ below (mc_Q (some (.int rz)) (fun t => mc_B mc_k 152 w I R t ∧ ¬ (rz ≠ 0 ∧ rz ≠ 1)) (mc_A 152 w)) args s 0 0 (mc_A 152 w)) (F0 m 90 ls []) := by
  intro n
  induction n with
  | zero =>
    intro v1 v2 v3 v4 h
    cases h
  | succ n ih =>
    intro v1 v2 v3 v4 h
    exact bk_L_hangs_B90 C hr hlk K  ih v1 v2 v3 v4 h
set_option maxHeartbeats 4000000 in
set_option maxRecDepth 100000 in
theorem bk_L_hangs_J50 {p : Program} {l : Launch} {e : Env} {s : State} {m : MethodId} {args : Array Value} {below : List Frame} {meth : Method} {c : Code} (C : CallFix p m c cL_hangs 6 s args mc_big RL) (hr : meth.sig.returnType = (some .boolean)) (hlk : meth.locks = false) {w : mc_w} (K : mc_K mc_k 152 w s) {I : Nat → Nat → Int32} {R : Nat → Nat → Option Nat} {F : Nat} {rz : Int32} {k9 : (Nat → Nat → Int32) → (Nat → Nat → Option Nat) → Int32 → Int32 → Option (Int32)} (hk9 : ∀ (v1 : Int32) (v2 : Int32), k9 I R v1 v2 = some rz → ∀ {H : Heap} {locs : List Loc} {ls : Array Slot}, mc_P mc_k 152 w I R H → va_S (mc_A 152 w) s.heap H locs → lv_has ls 6 [(0, .ref (w.2.2.1 144)), (1, .int v1), (2, .int v2)] → W p l e ({ frames := 7, cells := 0, slots := 0, locals := 159 } : Room) s m args below meth c H locs 0 0 (MQ below (mc_Q (some (.int rz)) (fun t => mc_B mc_k 152 w I R t ∧ ¬ (rz ≠ 0 ∧ rz ≠ 1)) (mc_A 152 w)) args s 0 0 (mc_A 152 w)) (F0 m 9 ls [])) : ∀ (v1 : Int32) (v2 : Int32) (v3 : Int32), mi_L_hangs_J50 k9 F I R v1 v2 v3 = some rz → ∀ {H : Heap} {locs : List Loc} {ls : Array Slot}, mc_P mc_k 152 w I R H → va_S (mc_A 152 w) s.heap H locs → lv_has ls 6 [(0, .ref (w.2.2.1 144)), (1, .int v1), (2, .int v2), (3, .int v3)] → W p l e ({ frames := 7, cells := 0, slots := 0, locals := 159 } : Room) s m args below meth c H locs 0 0 (MQ below (mc_Q (some (.int rz)) (fun t => mc_B mc_k 152 w I R t ∧ ¬ (rz ≠ 0 ∧ rz ≠ 1)) (mc_A 152 w)) args s 0 0 (mc_A 152 w)) (F0 m 50 ls []) := by
  intro v1 v2 v3 h  H locs ls hP hS hl
  have hx := C.1
  have hb := C.2.1
  have hC := And.intro C.1 C.2.1
  unfold mi_L_hangs_J50 at h
  refine lv_aload_n hx hb dL_hangs_50 rfl (lv_at hl 0 rfl) ?_
  refine lv_iload_n hx hb dL_hangs_51 rfl (lv_at hl 2 rfl) ?_
  refine lv_iconst (v := 1) hx hb dL_hangs_52 (by decide) ?_
  obtain ⟨r73, e74, h⟩ := mc_ob_e h
  refine mg_Vi (As := [.int v2, .int 1]) (rest := []) (ct_X8_messenger l (w := w) (I := I) (R := R) e74) C K hP hS hl.1 kf_144 (by decide) rfl rfl ml_L_27 wy_X8_messenger wd_X8_messenger rfl rfl rfl ⟨Nat.le_of_ble_eq_true rfl, Nat.le_of_ble_eq_true rfl⟩ (Nat.le_of_ble_eq_true rfl) ⟨Nat.zero_le _, Nat.zero_le _⟩ dL_hangs_53 (fun H locs hP hS => ?_)
  refine lv_aload_n hx hb dL_hangs_56 rfl (lv_at hl 0 rfl) ?_
  refine lv_aload_n hx hb dL_hangs_57 rfl (lv_at hl 0 rfl) ?_
  refine lv_iconst (v := 1) hx hb dL_hangs_58 (by decide) ?_
  obtain ⟨r75, e76, h⟩ := mc_ob_e h
  refine mg_Vi (As := [.int 1]) (rest := [.ref (w.2.2.1 144), .int r73]) (ct_X8_count l (w := w) (I := I) (R := R) e76) C K hP hS hl.1 kf_144 (by decide) rfl rfl ml_L_10 wy_X8_count wd_X8_count rfl rfl rfl ⟨Nat.le_of_ble_eq_true rfl, Nat.le_of_ble_eq_true rfl⟩ (Nat.le_of_ble_eq_true rfl) ⟨Nat.zero_le _, Nat.zero_le _⟩ dL_hangs_59 (fun H locs hP hS => ?_)
  refine lv_iload_n hx hb dL_hangs_62 rfl (lv_at hl 3 rfl) ?_
  refine lv_isub hx hb dL_hangs_63 ?_
  refine lv_aload_n hx hb dL_hangs_64 rfl (lv_at hl 0 rfl) ?_
  refine lv_iconst (v := 3) hx hb dL_hangs_65 (by decide) ?_
  obtain ⟨r77, e78, h⟩ := mc_ob_e h
  refine mg_Vi (As := [.int 3]) (rest := [.int (r75 - v3), .ref (w.2.2.1 144), .int r73]) (ct_X8_count l (w := w) (I := I) (R := R) e78) C K hP hS hl.1 kf_144 (by decide) rfl rfl ml_L_10 wy_X8_count wd_X8_count rfl rfl rfl ⟨Nat.le_of_ble_eq_true rfl, Nat.le_of_ble_eq_true rfl⟩ (Nat.le_of_ble_eq_true rfl) ⟨Nat.zero_le _, Nat.zero_le _⟩ dL_hangs_66 (fun H locs hP hS => ?_)
  obtain ⟨r79, e80, h⟩ := mc_ob_e h
  refine mg_Vi (As := [.int (r75 - v3), .int r77]) (rest := [.int r73]) (ct_X8_depth l (w := w) (I := I) (R := R) e80) C K hP hS hl.1 kf_144 (by decide) rfl rfl ml_L_20 wy_X8_depth wd_X8_depth rfl rfl rfl ⟨Nat.le_of_ble_eq_true rfl, Nat.le_of_ble_eq_true rfl⟩ (Nat.le_of_ble_eq_true rfl) ⟨Nat.zero_le _, Nat.zero_le _⟩ dL_hangs_69 (fun H locs hP hS => ?_)
  refine lv_icmp_eq (tgt := 77) hx hb dL_hangs_72 (by decide) (fun c81 => ?_) (fun c81 => ?_)
  · replace h := mc_it h c81
    obtain ⟨x82, ex82, h⟩ := mc_bn_e h
    refine lv_iinc (v := x82) (lv' := [(2, .int x82), (0, .ref (w.2.2.1 144)), (1, .int v1), (3, .int v3)]) hx hb dL_hangs_77 hl (k := 2) rfl (by rw [ex82]; rfl) (by decide) rfl (fun ls hl => ?_)
    refine lv_goto (tgt := 9) hx hb dL_hangs_80 (by decide) ?_
    exact hk9 v1 x82 h  hP hS (lv_sub hl [1, 2, 0] rfl)
  · replace h := mc_ie h c81
    refine lv_iconst (v := 0) hx hb dL_hangs_75 (by decide) ?_
    cases h
    exact mt_zX hC hr hlk K hP hS (by decide) (by decide) dL_hangs_76
set_option maxHeartbeats 4000000 in
set_option maxRecDepth 100000 in
theorem bk_L_hangs_B9 {p : Program} {l : Launch} {e : Env} {s : State} {m : MethodId} {args : Array Value} {below : List Frame} {meth : Method} {c : Code} (C : CallFix p m c cL_hangs 6 s args mc_big RL) (hr : meth.sig.returnType = (some .boolean)) (hlk : meth.locks = false) {w : mc_w} (K : mc_K mc_k 152 w s) {I : Nat → Nat → Int32} {R : Nat → Nat → Option Nat} {F : Nat} {rz : Int32} {k9 : (Nat → Nat → Int32) → (Nat → Nat → Option Nat) → Int32 → Int32 → Option (Int32)} (hk9 : ∀ (v1 : Int32) (v2 : Int32), k9 I R v1 v2 = some rz → ∀ {H : Heap} {locs : List Loc} {ls : Array Slot}, mc_P mc_k 152 w I R H → va_S (mc_A 152 w) s.heap H locs → lv_has ls 6 [(0, .ref (w.2.2.1 144)), (1, .int v1), (2, .int v2)] → W p l e ({ frames := 7, cells := 0, slots := 0, locals := 159 } : Room) s m args below meth c H locs 0 0 (MQ below (mc_Q (some (.int rz)) (fun t => mc_B mc_k 152 w I R t ∧ ¬ (rz ≠ 0 ∧ rz ≠ 1)) (mc_A 152 w)) args s 0 0 (mc_A 152 w)) (F0 m 9 ls [])) : ∀ (v1 : Int32) (v2 : Int32), mi_L_hangs_B9 k9 F I R v1 v2 = some rz → ∀ {H : Heap} {locs : List Loc} {ls : Array Slot}, mc_P mc_k 152 w I R H → va_S (mc_A 152 w) s.heap H locs → lv_has ls 6 [(0, .ref (w.2.2.1 144)), (1, .int v1), (2, .int v2)] → W p l e ({ frames := 7, cells := 0, slots := 0, locals := 159 } : Room) s m args below meth c H locs 0 0 (MQ below (mc_Q (some (.int rz)) (fun t => mc_B mc_k 152 w I R t ∧ ¬ (rz ≠ 0 ∧ rz ≠ 1)) (mc_A 152 w)) args s 0 0 (mc_A 152 w)) (F0 m 9 ls []) := by
  intro v1 v2 h  H locs ls hP hS hl
  have hx := C.1
  have hb := C.2.1
  have hC := And.intro C.1 C.2.1
  unfold mi_L_hangs_B9 at h
  refine lv_iload_n hx hb dL_hangs_9 rfl (lv_at hl 2 rfl) ?_
  refine lv_iload_n hx hb dL_hangs_10 rfl (lv_at hl 1 rfl) ?_
  refine lv_icmp_ge (tgt := 83) hx hb dL_hangs_11 (by decide) (fun c3 => ?_) (fun c3 => ?_)
  · replace h := mc_it h c3
    refine lv_iconst (v := 0) hx hb dL_hangs_83 (by decide) ?_
    refine lv_istore_n (i := 2) (lv' := [(2, .int 0), (0, .ref (w.2.2.1 144)), (1, .int v1)]) hx hb dL_hangs_84 rfl hl (by decide) rfl (fun ls hl => ?_)
    refine lv_iconst (v := 0) hx hb dL_hangs_85 (by decide) ?_
    refine lv_istore_n (i := 3) (lv' := [(3, .int 0), (2, .int 0), (0, .ref (w.2.2.1 144)), (1, .int v1)]) hx hb dL_hangs_86 rfl hl (by decide) rfl (fun ls hl => ?_)
    refine lv_iconst (v := 0) hx hb dL_hangs_87 (by decide) ?_
    refine lv_istore (i := 4) (lv' := [(4, .int 0), (3, .int 0), (2, .int 0), (0, .ref (w.2.2.1 144)), (1, .int v1)]) hx hb dL_hangs_88 hl (by decide) rfl (fun ls hl => ?_)
    exact bk_L_hangs_L90 C hr hlk K  F v1 0 0 0 h  hP hS (lv_sub hl [3, 4, 2, 1, 0] rfl)
  · replace h := mc_ie h c3
    refine lv_aload_n hx hb dL_hangs_14 rfl (lv_at hl 0 rfl) ?_
    refine lv_iload_n hx hb dL_hangs_15 rfl (lv_at hl 2 rfl) ?_
    refine lv_iconst (v := 0) hx hb dL_hangs_16 (by decide) ?_
    obtain ⟨r66, e67, h⟩ := mc_ob_e h
    refine mg_Vi (As := [.int v2, .int 0]) (rest := []) (ct_X8_messenger l (w := w) (I := I) (R := R) e67) C K hP hS hl.1 kf_144 (by decide) rfl rfl ml_L_27 wy_X8_messenger wd_X8_messenger rfl rfl rfl ⟨Nat.le_of_ble_eq_true rfl, Nat.le_of_ble_eq_true rfl⟩ (Nat.le_of_ble_eq_true rfl) ⟨Nat.zero_le _, Nat.zero_le _⟩ dL_hangs_17 (fun H locs hP hS => ?_)
    refine lv_istore_n (i := 3) (lv' := [(3, .int r66), (0, .ref (w.2.2.1 144)), (1, .int v1), (2, .int v2)]) hx hb dL_hangs_20 rfl hl (by decide) rfl (fun ls hl => ?_)
    refine lv_iload_n hx hb dL_hangs_21 rfl (lv_at hl 0 rfl) ?_
    refine lv_if_lt (tgt := 75) hx hb dL_hangs_22 (by decide) (fun c68 => ?_) (fun c68 => ?_)
    · replace h := mc_it h c68
      refine lv_iconst (v := 0) hx hb dL_hangs_75 (by decide) ?_
      cases h
      exact mt_zX hC hr hlk K hP hS (by decide) (by decide) dL_hangs_76
    · replace h := mc_ie h c68
      refine lv_iload_n hx hb dL_hangs_25 rfl (lv_at hl 0 rfl) ?_
      refine lv_aload_n hx hb dL_hangs_26 rfl (lv_at hl 1 rfl) ?_
      refine lv_iconst (v := 1) hx hb dL_hangs_27 (by decide) ?_
      obtain ⟨r69, e70, h⟩ := mc_ob_e h
      refine mg_Vi (As := [.int 1]) (rest := [.int r66]) (ct_X8_count l (w := w) (I := I) (R := R) e70) C K hP hS hl.1 kf_144 (by decide) rfl rfl ml_L_10 wy_X8_count wd_X8_count rfl rfl rfl ⟨Nat.le_of_ble_eq_true rfl, Nat.le_of_ble_eq_true rfl⟩ (Nat.le_of_ble_eq_true rfl) ⟨Nat.zero_le _, Nat.zero_le _⟩ dL_hangs_28 (fun H locs hP hS => ?_)
      refine lv_icmp_gt (tgt := 75) hx hb dL_hangs_31 (by decide) (fun c71 => ?_) (fun c71 => ?_)
      · replace h := mc_it h c71
        refine lv_iconst (v := 0) hx hb dL_hangs_75 (by decide) ?_
        cases h
        exact mt_zX hC hr hlk K hP hS (by decide) (by decide) dL_hangs_76
      · replace h := mc_ie h c71
        refine lv_iload_n hx hb dL_hangs_34 rfl (lv_at hl 3 rfl) ?_
        refine lv_if_le (tgt := 50) hx hb dL_hangs_35 (by decide) (fun c72 => ?_) (fun c72 => ?_)
        · replace h := mc_it h c72
          exact bk_L_hangs_J50 C hr hlk K hk9 v1 v2 r66 h  hP hS (lv_sub hl [1, 2, 3, 0] rfl)
        · replace h := mc_ie h c72
          refine lv_iload_n hx hb dL_hangs_38 rfl (lv_at hl 0 rfl) ?_
          refine lv_aload_n hx hb dL_hangs_39 rfl (lv_at hl 1 rfl) ?_
          refine lv_iload_n hx hb dL_hangs_40 rfl (lv_at hl 3 rfl) ?_
          refine lv_iconst (v := 1) hx hb dL_hangs_41 (by decide) ?_
          refine lv_isub hx hb dL_hangs_42 ?_
          refine lv_iconst (v := 0) hx hb dL_hangs_43 (by decide) ?_
          obtain ⟨r83, e84, h⟩ := mc_ob_e h
          refine mg_Vi (As := [.int (v2 - 1), .int 0]) (rest := [.int r66]) (ct_X8_messenger l (w := w) (I := I) (R := R) e84) C K hP hS hl.1 kf_144 (by decide) rfl rfl ml_L_27 wy_X8_messenger wd_X8_messenger rfl rfl rfl ⟨Nat.le_of_ble_eq_true rfl, Nat.le_of_ble_eq_true rfl⟩ (Nat.le_of_ble_eq_true rfl) ⟨Nat.zero_le _, Nat.zero_le _⟩ dL_hangs_44 (fun H locs hP hS => ?_)
          refine lv_icmp_lt (tgt := 75) hx hb dL_hangs_47 (by decide) (fun c85 => ?_) (fun c85 => ?_)
          · replace h := mc_it h c85
            refine lv_iconst (v := 0) hx hb dL_hangs_75 (by decide) ?_
            cases h
            exact mt_zX hC hr hlk K hP hS (by decide) (by decide) dL_hangs_76
          · replace h := mc_ie h c85
            exact bk_L_hangs_J50 C hr hlk K hk9 v1 v2 r66 h  hP hS (lv_sub hl [1, 2, 3, 0] rfl)
theorem bk_L_hangs_L9 {p : Program} {l : Launch} {e : Env} {s : State} {m : MethodId} {args : Array Value} {below : List Frame} {meth : Method} {c : Code} (C : CallFix p m c cL_hangs 6 s args mc_big RL) (hr : meth.sig.returnType = (some .boolean)) (hlk : meth.locks = false) {w : mc_w} (K : mc_K mc_k 152 w s) {I : Nat → Nat → Int32} {R : Nat → Nat → Option Nat} {F : Nat} {rz : Int32} : ∀ n : Nat, ∀ (v1 : Int32) (v2 : Int32), mi_L_hangs_L9 F n I R v1 v2 = some rz → ∀ {H : Heap} {locs : List Loc} {ls : Array Slot}, mc_P mc_k 152 w I R H → va_S (mc_A 152 w) s.heap H locs → lv_has ls 6 [(0, .ref (w.2.2.1 144)), (1, .int v1), (2, .int v2)] → W p l e ({ frames := 7, cells := 0, slots := 0, locals := 159 } : Room) s m args below meth c H locs 0 0 (MQ below (mc_Q (some (.int rz)) (fun t => mc_B mc_k 152 w I R t ∧ ¬ (rz ≠ 0 ∧ rz ≠ 1)) (mc_A 152 w)) args s 0 0 (mc_A 152 w)) (F0 m 9 ls []) := by
  intro n
  induction n with
  | zero =>
    intro v1 v2 h
    cases h
  | succ n ih =>
    intro v1 v2 h
    exact bk_L_hangs_B9 C hr hlk K  ih v1 v2 h
set_option maxHeartbeats 4000000 in
set_option maxRecDepth 100000 in
theorem ct_L_hangs (l : Launch) {w : mc_w} {I : Nat → Nat → Int32} {R : Nat → Nat → Option Nat} {F : Nat} {rz : Int32} (h : mi_L_hangs F I R = some rz) : Met l yL_hangs (Cond.code yL_hangs cL_hangs 6 (some .boolean) :: mc_big) ({ frames := 7, cells := 0, slots := 0, locals := 159 } : Room) (va_Pc [.ref (w.2.2.1 144)] (mc_B mc_k 152 w I R)) (mc_Q (some (.int rz)) (fun t => mc_B mc_k 152 w I R t ∧ ¬ (rz ≠ 0 ∧ rz ≠ 1)) (mc_A 152 w)) 0 0 (mc_A 152 w) := by
  refine Met.ofW (cc := cL_hangs) (maxL := 6) (ret := (some .boolean)) (by decide) rfl ?_
  intro p e s m args below meth c s₁ B hml hv
  obtain ⟨rfl, hP, K⟩ := hv
  have hown : s.vm.findClass RL = some m.cls := findClass_of_methodNamed B.named
  have C : CallFix p m c cL_hangs 6 s _ mc_big RL := ⟨B.exec, B.bytes, hml, hown, fun w hw => atoms_spec B.pre w (List.mem_cons_of_mem _ hw)⟩
  have hx := C.1
  have hb := C.2.1
  have hC := And.intro C.1 C.2.1
  have hr := B.returns
  have hlk := B.notSynchronized
  have hS : va_S (mc_A 152 w) s.heap s.heap [] := va_S.rf
  have hl := lv_entry ([.ref (w.2.2.1 144)]) (n := 6) (Nat.le_of_ble_eq_true rfl)
  rw [lg_entry_eq]
  generalize (lg_sl ([.ref (w.2.2.1 144)]) ++ List.replicate (6 - (lg_sl ([.ref (w.2.2.1 144)])).length) Slot.unset).toArray = ls at hl ⊢
  have hl : lv_has ls 6 [(0, .ref (w.2.2.1 144))] := hl
  unfold mi_L_hangs at h
  refine lv_aload_n hx hb dL_hangs_0 rfl (lv_at hl 0 rfl) ?_
  refine lv_bipush (v := 9) hx hb dL_hangs_1 (by decide) ?_
  obtain ⟨r1, e2, h⟩ := mc_ob_e h
  refine mg_Vi (As := [.int 9]) (rest := []) (ct_X8_count l (w := w) (I := I) (R := R) e2) C K hP hS hl.1 kf_144 (by decide) rfl rfl ml_L_10 wy_X8_count wd_X8_count rfl rfl rfl ⟨Nat.le_of_ble_eq_true rfl, Nat.le_of_ble_eq_true rfl⟩ (Nat.le_of_ble_eq_true rfl) ⟨Nat.zero_le _, Nat.zero_le _⟩ dL_hangs_3 (fun H locs hP hS => ?_)
  refine lv_istore_n (i := 1) (lv' := [(1, .int r1), (0, .ref (w.2.2.1 144))]) hx hb dL_hangs_6 rfl hl (by decide) rfl (fun ls hl => ?_)
  refine lv_iconst (v := 0) hx hb dL_hangs_7 (by decide) ?_
  refine lv_istore_n (i := 2) (lv' := [(2, .int 0), (1, .int r1), (0, .ref (w.2.2.1 144))]) hx hb dL_hangs_8 rfl hl (by decide) rfl (fun ls hl => ?_)
  exact bk_L_hangs_L9 C hr hlk K  F r1 0 h  hP hS (lv_sub hl [2, 1, 0] rfl)
set_option maxHeartbeats 4000000 in
set_option maxRecDepth 100000 in
theorem bk_L_print_B105 {p : Program} {l : Launch} {e : Env} {s : State} {m : MethodId} {args : Array Value} {below : List Frame} {meth : Method} {c : Code} (C : CallFix p m c cL_print 4 s args mc_big RL) (hr : meth.sig.returnType = (some .long)) (hlk : meth.locks = false) {w : mc_w} (K : mc_K mc_k 152 w s) {I : Nat → Nat → Int32} {R : Nat → Nat → Option Nat} {F : Nat} {rz : Int64} {k105 : (Nat → Nat → Int32) → (Nat → Nat → Option Nat) → Int64 → Int32 → Option (Int64)} (hk105 : ∀ (v1 : Int64) (v3 : Int32), k105 I R v1 v3 = some rz → ∀ {H : Heap} {locs : List Loc} {ls : Array Slot}, mc_P mc_k 152 w I R H → va_S (mc_A 152 w) s.heap H locs → lv_has ls 4 [(0, .ref (w.2.2.1 144)), (1, .long v1), (3, .int v3)] → W p l e ({ frames := 6, cells := 0, slots := 0, locals := 127 } : Room) s m args below meth c H locs 0 0 (MQ below (mc_Q (some (.long rz)) (mc_B mc_k 152 w I R) (mc_A 152 w)) args s 0 0 (mc_A 152 w)) (F0 m 105 ls [])) : ∀ (v1 : Int64) (v3 : Int32), mi_L_print_B105 k105 F I R v1 v3 = some rz → ∀ {H : Heap} {locs : List Loc} {ls : Array Slot}, mc_P mc_k 152 w I R H → va_S (mc_A 152 w) s.heap H locs → lv_has ls 4 [(0, .ref (w.2.2.1 144)), (1, .long v1), (3, .int v3)] → W p l e ({ frames := 6, cells := 0, slots := 0, locals := 127 } : Room) s m args below meth c H locs 0 0 (MQ below (mc_Q (some (.long rz)) (mc_B mc_k 152 w I R) (mc_A 152 w)) args s 0 0 (mc_A 152 w)) (F0 m 105 ls []) := by
  intro v1 v3 h  H locs ls hP hS hl
  have hx := C.1
  have hb := C.2.1
  have hC := And.intro C.1 C.2.1
  unfold mi_L_print_B105 at h
  refine lv_iload_n hx hb dL_print_105 rfl (lv_at hl 2 rfl) ?_
  refine lv_bipush (v := 20) hx hb dL_print_106 (by decide) ?_
  refine lv_icmp_ge (tgt := 135) hx hb dL_print_108 (by decide) (fun c9 => ?_) (fun c9 => ?_)
  · replace h := mc_it h c9
    refine lv_lload_n hx hb dL_print_135 rfl (lv_at hl 1 rfl) ?_
    cases h
    exact mt_j hC hr hlk K hP hS dL_print_136
  · replace h := mc_ie h c9
    refine lv_ldc2 hx hb C.2.2.2.1 (C.2.2.2.2 _ wk_L_41) dL_print_111 ?_
    refine lv_lload_n hx hb dL_print_114 rfl (lv_at hl 1 rfl) ?_
    refine lv_lmul hx hb dL_print_115 ?_
    refine lv_aload_n hx hb dL_print_116 rfl (lv_at hl 0 rfl) ?_
    refine lv_iload_n hx hb dL_print_117 rfl (lv_at hl 2 rfl) ?_
    refine lv_iconst (v := 2) hx hb dL_print_118 (by decide) ?_
    refine lv_idiv hx hb dL_print_119 (by decide) ?_
    refine lv_iload_n hx hb dL_print_120 rfl (lv_at hl 2 rfl) ?_
    refine lv_iconst (v := 2) hx hb dL_print_121 (by decide) ?_
    refine lv_irem hx hb dL_print_122 (by decide) ?_
    obtain ⟨r10, e11, h⟩ := mc_ob_e h
    refine mg_Vi (As := [.int (v3 / 2), .int (v3 - v3 / 2 * 2)]) (rest := [.long ((31 : Int64) * v1)]) (ct_X8_layer l (w := w) (I := I) (R := R) e11) C K hP hS hl.1 kf_144 (by decide) rfl rfl ml_L_30 wy_X8_layer wd_X8_layer rfl rfl rfl ⟨Nat.le_of_ble_eq_true rfl, Nat.le_of_ble_eq_true rfl⟩ (Nat.le_of_ble_eq_true rfl) ⟨Nat.zero_le _, Nat.zero_le _⟩ dL_print_123 (fun H locs hP hS => ?_)
    refine lv_i2l (v := (r10.toInt64)) hx hb dL_print_126 rfl ?_
    refine lv_ladd hx hb dL_print_127 ?_
    obtain ⟨x12, ex12, h⟩ := mc_bn_e h
    refine mv_topl ex12 ?_
    refine lv_lstore_n (i := 1) (lv' := [(1, .long x12), (0, .ref (w.2.2.1 144)), (3, .int v3)]) hx hb dL_print_128 rfl hl (by decide) rfl (fun ls hl => ?_)
    obtain ⟨x13, ex13, h⟩ := mc_bn_e h
    refine lv_iinc (v := x13) (lv' := [(3, .int x13), (1, .long x12), (0, .ref (w.2.2.1 144))]) hx hb dL_print_129 hl (k := 2) rfl (by rw [ex13]; rfl) (by decide) rfl (fun ls hl => ?_)
    refine lv_goto (tgt := 105) hx hb dL_print_132 (by decide) ?_
    exact hk105 x12 x13 h  hP hS (lv_sub hl [2, 1, 0] rfl)
theorem bk_L_print_L105 {p : Program} {l : Launch} {e : Env} {s : State} {m : MethodId} {args : Array Value} {below : List Frame} {meth : Method} {c : Code} (C : CallFix p m c cL_print 4 s args mc_big RL) (hr : meth.sig.returnType = (some .long)) (hlk : meth.locks = false) {w : mc_w} (K : mc_K mc_k 152 w s) {I : Nat → Nat → Int32} {R : Nat → Nat → Option Nat} {F : Nat} {rz : Int64} : ∀ n : Nat, ∀ (v1 : Int64) (v3 : Int32), mi_L_print_L105 F n I R v1 v3 = some rz → ∀ {H : Heap} {locs : List Loc} {ls : Array Slot}, mc_P mc_k 152 w I R H → va_S (mc_A 152 w) s.heap H locs → lv_has ls 4 [(0, .ref (w.2.2.1 144)), (1, .long v1), (3, .int v3)] → W p l e ({ frames := 6, cells := 0, slots := 0, locals := 127 } : Room) s m args below meth c H locs 0 0 (MQ below (mc_Q (some (.long rz)) (mc_B mc_k 152 w I R) (mc_A 152 w)) args s 0 0 (mc_A 152 w)) (F0 m 105 ls []) := by
  intro n
  induction n with
  | zero =>
    intro v1 v3 h
    cases h
  | succ n ih =>
    intro v1 v3 h
    exact bk_L_print_B105 C hr hlk K  ih v1 v3 h
set_option maxHeartbeats 4000000 in
set_option maxRecDepth 100000 in
theorem bk_L_print_B73 {p : Program} {l : Launch} {e : Env} {s : State} {m : MethodId} {args : Array Value} {below : List Frame} {meth : Method} {c : Code} (C : CallFix p m c cL_print 4 s args mc_big RL) (hr : meth.sig.returnType = (some .long)) (hlk : meth.locks = false) {w : mc_w} (K : mc_K mc_k 152 w s) {I : Nat → Nat → Int32} {R : Nat → Nat → Option Nat} {F : Nat} {rz : Int64} {k73 : (Nat → Nat → Int32) → (Nat → Nat → Option Nat) → Int64 → Int32 → Option (Int64)} (hk73 : ∀ (v1 : Int64) (v3 : Int32), k73 I R v1 v3 = some rz → ∀ {H : Heap} {locs : List Loc} {ls : Array Slot}, mc_P mc_k 152 w I R H → va_S (mc_A 152 w) s.heap H locs → lv_has ls 4 [(0, .ref (w.2.2.1 144)), (1, .long v1), (3, .int v3)] → W p l e ({ frames := 6, cells := 0, slots := 0, locals := 127 } : Room) s m args below meth c H locs 0 0 (MQ below (mc_Q (some (.long rz)) (mc_B mc_k 152 w I R) (mc_A 152 w)) args s 0 0 (mc_A 152 w)) (F0 m 73 ls [])) : ∀ (v1 : Int64) (v3 : Int32), mi_L_print_B73 k73 F I R v1 v3 = some rz → ∀ {H : Heap} {locs : List Loc} {ls : Array Slot}, mc_P mc_k 152 w I R H → va_S (mc_A 152 w) s.heap H locs → lv_has ls 4 [(0, .ref (w.2.2.1 144)), (1, .long v1), (3, .int v3)] → W p l e ({ frames := 6, cells := 0, slots := 0, locals := 127 } : Room) s m args below meth c H locs 0 0 (MQ below (mc_Q (some (.long rz)) (mc_B mc_k 152 w I R) (mc_A 152 w)) args s 0 0 (mc_A 152 w)) (F0 m 73 ls []) := by
  intro v1 v3 h  H locs ls hP hS hl
  have hx := C.1
  have hb := C.2.1
  have hC := And.intro C.1 C.2.1
  unfold mi_L_print_B73 at h
  refine lv_iload_n hx hb dL_print_73 rfl (lv_at hl 2 rfl) ?_
  refine lv_aload_n hx hb dL_print_74 rfl (lv_at hl 0 rfl) ?_
  refine lv_bipush (v := 9) hx hb dL_print_75 (by decide) ?_
  obtain ⟨r6, e7, h⟩ := mc_ob_e h
  refine mg_Vi (As := [.int 9]) (rest := [.int v3]) (ct_X8_count l (w := w) (I := I) (R := R) e7) C K hP hS hl.1 kf_144 (by decide) rfl rfl ml_L_10 wy_X8_count wd_X8_count rfl rfl rfl ⟨Nat.le_of_ble_eq_true rfl, Nat.le_of_ble_eq_true rfl⟩ (Nat.le_of_ble_eq_true rfl) ⟨Nat.zero_le _, Nat.zero_le _⟩ dL_print_77 (fun H locs hP hS => ?_)
  refine lv_icmp_ge (tgt := 103) hx hb dL_print_80 (by decide) (fun c8 => ?_) (fun c8 => ?_)
  · replace h := mc_it h c8
    refine lv_iconst (v := 0) hx hb dL_print_103 (by decide) ?_
    refine lv_istore_n (i := 3) (lv' := [(3, .int 0), (0, .ref (w.2.2.1 144)), (1, .long v1)]) hx hb dL_print_104 rfl hl (by decide) rfl (fun ls hl => ?_)
    exact bk_L_print_L105 C hr hlk K  F v1 0 h  hP hS (lv_sub hl [1, 2, 0] rfl)
  · replace h := mc_ie h c8
    refine lv_ldc2 hx hb C.2.2.2.1 (C.2.2.2.2 _ wk_L_41) dL_print_83 ?_
    refine lv_lload_n hx hb dL_print_86 rfl (lv_at hl 1 rfl) ?_
    refine lv_lmul hx hb dL_print_87 ?_
    refine lv_aload_n hx hb dL_print_88 rfl (lv_at hl 0 rfl) ?_
    refine lv_iload_n hx hb dL_print_89 rfl (lv_at hl 2 rfl) ?_
    refine lv_iconst (v := 0) hx hb dL_print_90 (by decide) ?_
    obtain ⟨r14, e15, h⟩ := mc_ob_e h
    refine mg_Vi (As := [.int v3, .int 0]) (rest := [.long ((31 : Int64) * v1)]) (ct_X8_messenger l (w := w) (I := I) (R := R) e15) C K hP hS hl.1 kf_144 (by decide) rfl rfl ml_L_27 wy_X8_messenger wd_X8_messenger rfl rfl rfl ⟨Nat.le_of_ble_eq_true rfl, Nat.le_of_ble_eq_true rfl⟩ (Nat.le_of_ble_eq_true rfl) ⟨Nat.zero_le _, Nat.zero_le _⟩ dL_print_91 (fun H locs hP hS => ?_)
    refine lv_i2l (v := (r14.toInt64)) hx hb dL_print_94 rfl ?_
    refine lv_ladd hx hb dL_print_95 ?_
    obtain ⟨x16, ex16, h⟩ := mc_bn_e h
    refine mv_topl ex16 ?_
    refine lv_lstore_n (i := 1) (lv' := [(1, .long x16), (0, .ref (w.2.2.1 144)), (3, .int v3)]) hx hb dL_print_96 rfl hl (by decide) rfl (fun ls hl => ?_)
    obtain ⟨x17, ex17, h⟩ := mc_bn_e h
    refine lv_iinc (v := x17) (lv' := [(3, .int x17), (1, .long x16), (0, .ref (w.2.2.1 144))]) hx hb dL_print_97 hl (k := 2) rfl (by rw [ex17]; rfl) (by decide) rfl (fun ls hl => ?_)
    refine lv_goto (tgt := 73) hx hb dL_print_100 (by decide) ?_
    exact hk73 x16 x17 h  hP hS (lv_sub hl [2, 1, 0] rfl)
theorem bk_L_print_L73 {p : Program} {l : Launch} {e : Env} {s : State} {m : MethodId} {args : Array Value} {below : List Frame} {meth : Method} {c : Code} (C : CallFix p m c cL_print 4 s args mc_big RL) (hr : meth.sig.returnType = (some .long)) (hlk : meth.locks = false) {w : mc_w} (K : mc_K mc_k 152 w s) {I : Nat → Nat → Int32} {R : Nat → Nat → Option Nat} {F : Nat} {rz : Int64} : ∀ n : Nat, ∀ (v1 : Int64) (v3 : Int32), mi_L_print_L73 F n I R v1 v3 = some rz → ∀ {H : Heap} {locs : List Loc} {ls : Array Slot}, mc_P mc_k 152 w I R H → va_S (mc_A 152 w) s.heap H locs → lv_has ls 4 [(0, .ref (w.2.2.1 144)), (1, .long v1), (3, .int v3)] → W p l e ({ frames := 6, cells := 0, slots := 0, locals := 127 } : Room) s m args below meth c H locs 0 0 (MQ below (mc_Q (some (.long rz)) (mc_B mc_k 152 w I R) (mc_A 152 w)) args s 0 0 (mc_A 152 w)) (F0 m 73 ls []) := by
  intro n
  induction n with
  | zero =>
    intro v1 v3 h
    cases h
  | succ n ih =>
    intro v1 v3 h
    exact bk_L_print_B73 C hr hlk K  ih v1 v3 h
set_option maxHeartbeats 4000000 in
set_option maxRecDepth 100000 in
theorem bk_L_print_B33 {p : Program} {l : Launch} {e : Env} {s : State} {m : MethodId} {args : Array Value} {below : List Frame} {meth : Method} {c : Code} (C : CallFix p m c cL_print 4 s args mc_big RL) (hr : meth.sig.returnType = (some .long)) (hlk : meth.locks = false) {w : mc_w} (K : mc_K mc_k 152 w s) {I : Nat → Nat → Int32} {R : Nat → Nat → Option Nat} {F : Nat} {rz : Int64} {k33 : (Nat → Nat → Int32) → (Nat → Nat → Option Nat) → Int64 → Int32 → Option (Int64)} (hk33 : ∀ (v1 : Int64) (v3 : Int32), k33 I R v1 v3 = some rz → ∀ {H : Heap} {locs : List Loc} {ls : Array Slot}, mc_P mc_k 152 w I R H → va_S (mc_A 152 w) s.heap H locs → lv_has ls 4 [(0, .ref (w.2.2.1 144)), (1, .long v1), (3, .int v3)] → W p l e ({ frames := 6, cells := 0, slots := 0, locals := 127 } : Room) s m args below meth c H locs 0 0 (MQ below (mc_Q (some (.long rz)) (mc_B mc_k 152 w I R) (mc_A 152 w)) args s 0 0 (mc_A 152 w)) (F0 m 33 ls [])) : ∀ (v1 : Int64) (v3 : Int32), mi_L_print_B33 k33 F I R v1 v3 = some rz → ∀ {H : Heap} {locs : List Loc} {ls : Array Slot}, mc_P mc_k 152 w I R H → va_S (mc_A 152 w) s.heap H locs → lv_has ls 4 [(0, .ref (w.2.2.1 144)), (1, .long v1), (3, .int v3)] → W p l e ({ frames := 6, cells := 0, slots := 0, locals := 127 } : Room) s m args below meth c H locs 0 0 (MQ below (mc_Q (some (.long rz)) (mc_B mc_k 152 w I R) (mc_A 152 w)) args s 0 0 (mc_A 152 w)) (F0 m 33 ls []) := by
  intro v1 v3 h  H locs ls hP hS hl
  have hx := C.1
  have hb := C.2.1
  have hC := And.intro C.1 C.2.1
  unfold mi_L_print_B33 at h
  refine lv_iload_n hx hb dL_print_33 rfl (lv_at hl 2 rfl) ?_
  refine lv_bipush (v := 14) hx hb dL_print_34 (by decide) ?_
  refine lv_aload_n hx hb dL_print_36 rfl (lv_at hl 0 rfl) ?_
  refine lv_iconst (v := 5) hx hb dL_print_37 (by decide) ?_
  obtain ⟨r3, e4, h⟩ := mc_ob_e h
  refine mg_Vi (As := [.int 5]) (rest := [.int 14, .int v3]) (ct_X8_count l (w := w) (I := I) (R := R) e4) C K hP hS hl.1 kf_144 (by decide) rfl rfl ml_L_10 wy_X8_count wd_X8_count rfl rfl rfl ⟨Nat.le_of_ble_eq_true rfl, Nat.le_of_ble_eq_true rfl⟩ (Nat.le_of_ble_eq_true rfl) ⟨Nat.zero_le _, Nat.zero_le _⟩ dL_print_38 (fun H locs hP hS => ?_)
  refine lv_imul hx hb dL_print_41 ?_
  refine lv_icmp_ge (tgt := 71) hx hb dL_print_42 (by decide) (fun c5 => ?_) (fun c5 => ?_)
  · replace h := mc_it h c5
    refine lv_iconst (v := 0) hx hb dL_print_71 (by decide) ?_
    refine lv_istore_n (i := 3) (lv' := [(3, .int 0), (0, .ref (w.2.2.1 144)), (1, .long v1)]) hx hb dL_print_72 rfl hl (by decide) rfl (fun ls hl => ?_)
    exact bk_L_print_L73 C hr hlk K  F v1 0 h  hP hS (lv_sub hl [1, 2, 0] rfl)
  · replace h := mc_ie h c5
    refine lv_ldc2 hx hb C.2.2.2.1 (C.2.2.2.2 _ wk_L_41) dL_print_45 ?_
    refine lv_lload_n hx hb dL_print_48 rfl (lv_at hl 1 rfl) ?_
    refine lv_lmul hx hb dL_print_49 ?_
    refine lv_aload_n hx hb dL_print_50 rfl (lv_at hl 0 rfl) ?_
    refine lv_iload_n hx hb dL_print_51 rfl (lv_at hl 2 rfl) ?_
    refine lv_bipush (v := 14) hx hb dL_print_52 (by decide) ?_
    refine lv_idiv hx hb dL_print_54 (by decide) ?_
    refine lv_iload_n hx hb dL_print_55 rfl (lv_at hl 2 rfl) ?_
    refine lv_bipush (v := 14) hx hb dL_print_56 (by decide) ?_
    refine lv_irem hx hb dL_print_58 (by decide) ?_
    obtain ⟨r18, e19, h⟩ := mc_ob_e h
    refine mg_Vi (As := [.int (v3 / 14), .int (v3 - v3 / 14 * 14)]) (rest := [.long ((31 : Int64) * v1)]) (ct_X8_bottle l (w := w) (I := I) (R := R) e19) C K hP hS hl.1 kf_144 (by decide) rfl rfl ml_L_16 wy_X8_bottle wd_X8_bottle rfl rfl rfl ⟨Nat.le_of_ble_eq_true rfl, Nat.le_of_ble_eq_true rfl⟩ (Nat.le_of_ble_eq_true rfl) ⟨Nat.zero_le _, Nat.zero_le _⟩ dL_print_59 (fun H locs hP hS => ?_)
    refine lv_i2l (v := (r18.toInt64)) hx hb dL_print_62 rfl ?_
    refine lv_ladd hx hb dL_print_63 ?_
    obtain ⟨x20, ex20, h⟩ := mc_bn_e h
    refine mv_topl ex20 ?_
    refine lv_lstore_n (i := 1) (lv' := [(1, .long x20), (0, .ref (w.2.2.1 144)), (3, .int v3)]) hx hb dL_print_64 rfl hl (by decide) rfl (fun ls hl => ?_)
    obtain ⟨x21, ex21, h⟩ := mc_bn_e h
    refine lv_iinc (v := x21) (lv' := [(3, .int x21), (1, .long x20), (0, .ref (w.2.2.1 144))]) hx hb dL_print_65 hl (k := 2) rfl (by rw [ex21]; rfl) (by decide) rfl (fun ls hl => ?_)
    refine lv_goto (tgt := 33) hx hb dL_print_68 (by decide) ?_
    exact hk33 x20 x21 h  hP hS (lv_sub hl [2, 1, 0] rfl)
theorem bk_L_print_L33 {p : Program} {l : Launch} {e : Env} {s : State} {m : MethodId} {args : Array Value} {below : List Frame} {meth : Method} {c : Code} (C : CallFix p m c cL_print 4 s args mc_big RL) (hr : meth.sig.returnType = (some .long)) (hlk : meth.locks = false) {w : mc_w} (K : mc_K mc_k 152 w s) {I : Nat → Nat → Int32} {R : Nat → Nat → Option Nat} {F : Nat} {rz : Int64} : ∀ n : Nat, ∀ (v1 : Int64) (v3 : Int32), mi_L_print_L33 F n I R v1 v3 = some rz → ∀ {H : Heap} {locs : List Loc} {ls : Array Slot}, mc_P mc_k 152 w I R H → va_S (mc_A 152 w) s.heap H locs → lv_has ls 4 [(0, .ref (w.2.2.1 144)), (1, .long v1), (3, .int v3)] → W p l e ({ frames := 6, cells := 0, slots := 0, locals := 127 } : Room) s m args below meth c H locs 0 0 (MQ below (mc_Q (some (.long rz)) (mc_B mc_k 152 w I R) (mc_A 152 w)) args s 0 0 (mc_A 152 w)) (F0 m 33 ls []) := by
  intro n
  induction n with
  | zero =>
    intro v1 v3 h
    cases h
  | succ n ih =>
    intro v1 v3 h
    exact bk_L_print_B33 C hr hlk K  ih v1 v3 h
set_option maxHeartbeats 4000000 in
set_option maxRecDepth 100000 in
theorem bk_L_print_B6 {p : Program} {l : Launch} {e : Env} {s : State} {m : MethodId} {args : Array Value} {below : List Frame} {meth : Method} {c : Code} (C : CallFix p m c cL_print 4 s args mc_big RL) (hr : meth.sig.returnType = (some .long)) (hlk : meth.locks = false) {w : mc_w} (K : mc_K mc_k 152 w s) {I : Nat → Nat → Int32} {R : Nat → Nat → Option Nat} {F : Nat} {rz : Int64} {k6 : (Nat → Nat → Int32) → (Nat → Nat → Option Nat) → Int64 → Int32 → Option (Int64)} (hk6 : ∀ (v1 : Int64) (v3 : Int32), k6 I R v1 v3 = some rz → ∀ {H : Heap} {locs : List Loc} {ls : Array Slot}, mc_P mc_k 152 w I R H → va_S (mc_A 152 w) s.heap H locs → lv_has ls 4 [(0, .ref (w.2.2.1 144)), (1, .long v1), (3, .int v3)] → W p l e ({ frames := 6, cells := 0, slots := 0, locals := 127 } : Room) s m args below meth c H locs 0 0 (MQ below (mc_Q (some (.long rz)) (mc_B mc_k 152 w I R) (mc_A 152 w)) args s 0 0 (mc_A 152 w)) (F0 m 6 ls [])) : ∀ (v1 : Int64) (v3 : Int32), mi_L_print_B6 k6 F I R v1 v3 = some rz → ∀ {H : Heap} {locs : List Loc} {ls : Array Slot}, mc_P mc_k 152 w I R H → va_S (mc_A 152 w) s.heap H locs → lv_has ls 4 [(0, .ref (w.2.2.1 144)), (1, .long v1), (3, .int v3)] → W p l e ({ frames := 6, cells := 0, slots := 0, locals := 127 } : Room) s m args below meth c H locs 0 0 (MQ below (mc_Q (some (.long rz)) (mc_B mc_k 152 w I R) (mc_A 152 w)) args s 0 0 (mc_A 152 w)) (F0 m 6 ls []) := by
  intro v1 v3 h  H locs ls hP hS hl
  have hx := C.1
  have hb := C.2.1
  have hC := And.intro C.1 C.2.1
  unfold mi_L_print_B6 at h
  refine lv_iload_n hx hb dL_print_6 rfl (lv_at hl 2 rfl) ?_
  refine lv_bipush (v := 17) hx hb dL_print_7 (by decide) ?_
  refine lv_icmp_ge (tgt := 31) hx hb dL_print_9 (by decide) (fun c2 => ?_) (fun c2 => ?_)
  · replace h := mc_it h c2
    refine lv_iconst (v := 0) hx hb dL_print_31 (by decide) ?_
    refine lv_istore_n (i := 3) (lv' := [(3, .int 0), (0, .ref (w.2.2.1 144)), (1, .long v1)]) hx hb dL_print_32 rfl hl (by decide) rfl (fun ls hl => ?_)
    exact bk_L_print_L33 C hr hlk K  F v1 0 h  hP hS (lv_sub hl [1, 2, 0] rfl)
  · replace h := mc_ie h c2
    refine lv_ldc2 hx hb C.2.2.2.1 (C.2.2.2.2 _ wk_L_41) dL_print_12 ?_
    refine lv_lload_n hx hb dL_print_15 rfl (lv_at hl 1 rfl) ?_
    refine lv_lmul hx hb dL_print_16 ?_
    refine lv_aload_n hx hb dL_print_17 rfl (lv_at hl 0 rfl) ?_
    refine lv_iload_n hx hb dL_print_18 rfl (lv_at hl 2 rfl) ?_
    obtain ⟨r22, e23, h⟩ := mc_ob_e h
    refine mg_Vi (As := [.int v3]) (rest := [.long ((31 : Int64) * v1)]) (ct_X8_count l (w := w) (I := I) (R := R) e23) C K hP hS hl.1 kf_144 (by decide) rfl rfl ml_L_10 wy_X8_count wd_X8_count rfl rfl rfl ⟨Nat.le_of_ble_eq_true rfl, Nat.le_of_ble_eq_true rfl⟩ (Nat.le_of_ble_eq_true rfl) ⟨Nat.zero_le _, Nat.zero_le _⟩ dL_print_19 (fun H locs hP hS => ?_)
    refine lv_i2l (v := (r22.toInt64)) hx hb dL_print_22 rfl ?_
    refine lv_ladd hx hb dL_print_23 ?_
    obtain ⟨x24, ex24, h⟩ := mc_bn_e h
    refine mv_topl ex24 ?_
    refine lv_lstore_n (i := 1) (lv' := [(1, .long x24), (0, .ref (w.2.2.1 144)), (3, .int v3)]) hx hb dL_print_24 rfl hl (by decide) rfl (fun ls hl => ?_)
    obtain ⟨x25, ex25, h⟩ := mc_bn_e h
    refine lv_iinc (v := x25) (lv' := [(3, .int x25), (1, .long x24), (0, .ref (w.2.2.1 144))]) hx hb dL_print_25 hl (k := 2) rfl (by rw [ex25]; rfl) (by decide) rfl (fun ls hl => ?_)
    refine lv_goto (tgt := 6) hx hb dL_print_28 (by decide) ?_
    exact hk6 x24 x25 h  hP hS (lv_sub hl [2, 1, 0] rfl)
theorem bk_L_print_L6 {p : Program} {l : Launch} {e : Env} {s : State} {m : MethodId} {args : Array Value} {below : List Frame} {meth : Method} {c : Code} (C : CallFix p m c cL_print 4 s args mc_big RL) (hr : meth.sig.returnType = (some .long)) (hlk : meth.locks = false) {w : mc_w} (K : mc_K mc_k 152 w s) {I : Nat → Nat → Int32} {R : Nat → Nat → Option Nat} {F : Nat} {rz : Int64} : ∀ n : Nat, ∀ (v1 : Int64) (v3 : Int32), mi_L_print_L6 F n I R v1 v3 = some rz → ∀ {H : Heap} {locs : List Loc} {ls : Array Slot}, mc_P mc_k 152 w I R H → va_S (mc_A 152 w) s.heap H locs → lv_has ls 4 [(0, .ref (w.2.2.1 144)), (1, .long v1), (3, .int v3)] → W p l e ({ frames := 6, cells := 0, slots := 0, locals := 127 } : Room) s m args below meth c H locs 0 0 (MQ below (mc_Q (some (.long rz)) (mc_B mc_k 152 w I R) (mc_A 152 w)) args s 0 0 (mc_A 152 w)) (F0 m 6 ls []) := by
  intro n
  induction n with
  | zero =>
    intro v1 v3 h
    cases h
  | succ n ih =>
    intro v1 v3 h
    exact bk_L_print_B6 C hr hlk K  ih v1 v3 h
set_option maxHeartbeats 4000000 in
set_option maxRecDepth 100000 in
theorem ct_L_print (l : Launch) {w : mc_w} {I : Nat → Nat → Int32} {R : Nat → Nat → Option Nat} {F : Nat} {rz : Int64} (h : mi_L_print F I R = some rz) : Met l yL_print (Cond.code yL_print cL_print 4 (some .long) :: mc_big) ({ frames := 6, cells := 0, slots := 0, locals := 127 } : Room) (va_Pc [.ref (w.2.2.1 144)] (mc_B mc_k 152 w I R)) (mc_Q (some (.long rz)) (mc_B mc_k 152 w I R) (mc_A 152 w)) 0 0 (mc_A 152 w) := by
  refine Met.ofW (cc := cL_print) (maxL := 4) (ret := (some .long)) (by decide) rfl ?_
  intro p e s m args below meth c s₁ B hml hv
  obtain ⟨rfl, hP, K⟩ := hv
  have hown : s.vm.findClass RL = some m.cls := findClass_of_methodNamed B.named
  have C : CallFix p m c cL_print 4 s _ mc_big RL := ⟨B.exec, B.bytes, hml, hown, fun w hw => atoms_spec B.pre w (List.mem_cons_of_mem _ hw)⟩
  have hx := C.1
  have hb := C.2.1
  have hC := And.intro C.1 C.2.1
  have hr := B.returns
  have hlk := B.notSynchronized
  have hS : va_S (mc_A 152 w) s.heap s.heap [] := va_S.rf
  have hl := lv_entry ([.ref (w.2.2.1 144)]) (n := 4) (Nat.le_of_ble_eq_true rfl)
  rw [lg_entry_eq]
  generalize (lg_sl ([.ref (w.2.2.1 144)]) ++ List.replicate (4 - (lg_sl ([.ref (w.2.2.1 144)])).length) Slot.unset).toArray = ls at hl ⊢
  have hl : lv_has ls 4 [(0, .ref (w.2.2.1 144))] := hl
  unfold mi_L_print at h
  refine lv_ldc2 hx hb C.2.2.2.1 (C.2.2.2.2 _ wk_L_39) dL_print_0 ?_
  obtain ⟨x1, ex1, h⟩ := mc_bn_e h
  refine mv_topl ex1 ?_
  refine lv_lstore_n (i := 1) (lv' := [(1, .long x1), (0, .ref (w.2.2.1 144))]) hx hb dL_print_3 rfl hl (by decide) rfl (fun ls hl => ?_)
  refine lv_iconst (v := 0) hx hb dL_print_4 (by decide) ?_
  refine lv_istore_n (i := 3) (lv' := [(3, .int 0), (1, .long x1), (0, .ref (w.2.2.1 144))]) hx hb dL_print_5 rfl hl (by decide) rfl (fun ls hl => ?_)
  exact bk_L_print_L6 C hr hlk K  F x1 0 h  hP hS (lv_sub hl [2, 1, 0] rfl)
set_option maxHeartbeats 4000000 in
set_option maxRecDepth 100000 in
theorem bk_L_shuts_J335 {p : Program} {l : Launch} {e : Env} {s : State} {m : MethodId} {args : Array Value} {below : List Frame} {meth : Method} {c : Code} (C : CallFix p m c cL_shuts 11 s args mc_big RL) (hr : meth.sig.returnType = (some .boolean)) (hlk : meth.locks = false) {w : mc_w} (K : mc_K mc_k 152 w s) {F : Nat} {Iz : Nat → Nat → Int32} {Rz : Nat → Nat → Option Nat} {rz : Int32} : ∀ (I : Nat → Nat → Int32) (R : Nat → Nat → Option Nat) (v7 : Int64) (s0 : Int32), mi_L_shuts_J335 F I R v7 s0 = some (Iz, Rz, rz) → ∀ {H : Heap} {locs : List Loc} {ls : Array Slot}, mc_P mc_k 152 w I R H → va_S (mc_A 152 w) s.heap H locs → lv_has ls 11 [(0, .ref (w.2.2.1 144)), (7, .long v7)] → W p l e ({ frames := 8, cells := 0, slots := 0, locals := 184 } : Room) s m args below meth c H locs 0 0 (MQ below (mc_Q (some (.int rz)) (fun t => mc_B mc_k 152 w Iz Rz t ∧ ¬ (rz ≠ 0 ∧ rz ≠ 1)) (mc_A 152 w)) args s 0 0 (mc_A 152 w)) (F0 m 335 ls [.int s0]) := by
  intro I R v7 s0 h  H locs ls hP hS hl
  have hx := C.1
  have hb := C.2.1
  have hC := And.intro C.1 C.2.1
  unfold mi_L_shuts_J335 at h
  refine lv_istore (i := 10) (lv' := [(10, .int s0), (0, .ref (w.2.2.1 144)), (7, .long v7)]) hx hb dL_shuts_335 hl (by decide) rfl (fun ls hl => ?_)
  refine lv_iload hx hb dL_shuts_337 (lv_at hl 0 rfl) ?_
  refine lv_if_eq (tgt := 363) hx hb dL_shuts_339 (by decide) (fun c15 => ?_) (fun c15 => ?_)
  · replace h := mc_it h c15
    refine lv_iconst (v := 0) hx hb dL_shuts_363 (by decide) ?_
    cases h
    exact mt_zX hC hr hlk K hP hS (by decide) (by decide) dL_shuts_364
  · replace h := mc_ie h c15
    refine lv_aload_n hx hb dL_shuts_342 rfl (lv_at hl 1 rfl) ?_
    obtain ⟨I16, r17, e18, h⟩ := mc_ob2_e h
    refine mg_Vi (As := []) (rest := []) (ct_X8_undo l (w := w) (I := I) (R := R) e18) C K hP hS hl.1 kf_144 (by decide) rfl rfl ml_L_62 wy_X8_undo wd_X8_undo rfl rfl rfl ⟨Nat.le_of_ble_eq_true rfl, Nat.le_of_ble_eq_true rfl⟩ (Nat.le_of_ble_eq_true rfl) ⟨Nat.zero_le _, Nat.zero_le _⟩ dL_shuts_343 (fun H locs hP hS => ?_)
    refine lv_if_lt (tgt := 363) hx hb dL_shuts_346 (by decide) (fun c19 => ?_) (fun c19 => ?_)
    · replace h := mc_it h c19
      refine lv_iconst (v := 0) hx hb dL_shuts_363 (by decide) ?_
      cases h
      exact mt_zX hC hr hlk K hP hS (by decide) (by decide) dL_shuts_364
    · replace h := mc_ie h c19
      refine lv_aload_n hx hb dL_shuts_349 rfl (lv_at hl 1 rfl) ?_
      obtain ⟨r20, e21, h⟩ := mc_ob_e h
      refine mg_Sj (As := [.ref (w.2.2.1 144)]) (rest := []) (ct_L_print l (w := w) (I := I16) (R := R) e21) C K hP hS hl.1 ml_L_52 wy_L_print wd_L_print rfl rfl rfl ⟨Nat.le_of_ble_eq_true rfl, Nat.le_of_ble_eq_true rfl⟩ (Nat.le_of_ble_eq_true rfl) ⟨Nat.zero_le _, Nat.zero_le _⟩ dL_shuts_350 (fun H locs hP hS => ?_)
      refine lv_lload hx hb dL_shuts_353 (lv_at hl 2 rfl) ?_
      refine W.lcmp hx hb dL_shuts_355 ?_
      refine lv_if_ne (tgt := 363) hx hb dL_shuts_356 (by decide) (fun c22 => ?_) (fun c22 => ?_)
      · replace h := mc_ie h c22
        refine lv_iconst (v := 0) hx hb dL_shuts_363 (by decide) ?_
        cases h
        exact mt_zX hC hr hlk K hP hS (by decide) (by decide) dL_shuts_364
      · replace h := mc_it h c22
        refine lv_iconst (v := 1) hx hb dL_shuts_359 (by decide) ?_
        refine lv_goto (tgt := 364) hx hb dL_shuts_360 (by decide) ?_
        cases h
        exact mt_zX hC hr hlk K hP hS (by decide) (by decide) dL_shuts_364
set_option maxHeartbeats 4000000 in
set_option maxRecDepth 100000 in
theorem bk_L_shuts_J320 {p : Program} {l : Launch} {e : Env} {s : State} {m : MethodId} {args : Array Value} {below : List Frame} {meth : Method} {c : Code} (C : CallFix p m c cL_shuts 11 s args mc_big RL) (hr : meth.sig.returnType = (some .boolean)) (hlk : meth.locks = false) {w : mc_w} (K : mc_K mc_k 152 w s) {F : Nat} {Iz : Nat → Nat → Int32} {Rz : Nat → Nat → Option Nat} {rz : Int32} : ∀ (I : Nat → Nat → Int32) (R : Nat → Nat → Option Nat) (v7 : Int64) (s0 : Int32) (s1 : Int32), mi_L_shuts_J320 F I R v7 s0 s1 = some (Iz, Rz, rz) → ∀ {H : Heap} {locs : List Loc} {ls : Array Slot}, mc_P mc_k 152 w I R H → va_S (mc_A 152 w) s.heap H locs → lv_has ls 11 [(0, .ref (w.2.2.1 144)), (7, .long v7)] → W p l e ({ frames := 8, cells := 0, slots := 0, locals := 184 } : Room) s m args below meth c H locs 0 0 (MQ below (mc_Q (some (.int rz)) (fun t => mc_B mc_k 152 w Iz Rz t ∧ ¬ (rz ≠ 0 ∧ rz ≠ 1)) (mc_A 152 w)) args s 0 0 (mc_A 152 w)) (F0 m 320 ls [.int s0, .int s1]) := by
  intro I R v7 s0 s1 h  H locs ls hP hS hl
  have hx := C.1
  have hb := C.2.1
  have hC := And.intro C.1 C.2.1
  unfold mi_L_shuts_J320 at h
  refine lv_icmp_ne (tgt := 334) hx hb dL_shuts_320 (by decide) (fun c29 => ?_) (fun c29 => ?_)
  · replace h := mc_ie h c29
    refine lv_iconst (v := 0) hx hb dL_shuts_334 (by decide) ?_
    exact bk_L_shuts_J335 C hr hlk K  I R v7 0 h  hP hS (lv_sub hl [0, 1] rfl)
  · replace h := mc_it h c29
    refine lv_aload_n hx hb dL_shuts_323 rfl (lv_at hl 0 rfl) ?_
    obtain ⟨r30, e31, h⟩ := mc_ob_e h
    refine mg_Sz (As := [.ref (w.2.2.1 144)]) (rest := []) (ct_L_hangs l (w := w) (I := I) (R := R) e31) C K hP hS hl.1 ml_L_59 wy_L_hangs wd_L_hangs rfl rfl rfl ⟨Nat.le_of_ble_eq_true rfl, Nat.le_of_ble_eq_true rfl⟩ (Nat.le_of_ble_eq_true rfl) ⟨Nat.zero_le _, Nat.zero_le _⟩ dL_shuts_324 (fun H locs hP z32 hS => ?_)
    refine lv_if_eq (tgt := 334) hx hb dL_shuts_327 (by decide) (fun c33 => ?_) (fun c33 => ?_)
    · replace h := mc_it h c33
      refine lv_iconst (v := 0) hx hb dL_shuts_334 (by decide) ?_
      exact bk_L_shuts_J335 C hr hlk K  I R v7 0 h  hP hS (lv_sub hl [0, 1] rfl)
    · replace h := mc_ie h c33
      refine lv_iconst (v := 1) hx hb dL_shuts_330 (by decide) ?_
      refine lv_goto (tgt := 335) hx hb dL_shuts_331 (by decide) ?_
      exact bk_L_shuts_J335 C hr hlk K  I R v7 1 h  hP hS (lv_sub hl [0, 1] rfl)
set_option maxHeartbeats 4000000 in
set_option maxRecDepth 100000 in
theorem bk_L_shuts_J293 {p : Program} {l : Launch} {e : Env} {s : State} {m : MethodId} {args : Array Value} {below : List Frame} {meth : Method} {c : Code} (C : CallFix p m c cL_shuts 11 s args mc_big RL) (hr : meth.sig.returnType = (some .boolean)) (hlk : meth.locks = false) {w : mc_w} (K : mc_K mc_k 152 w s) {F : Nat} {Iz : Nat → Nat → Int32} {Rz : Nat → Nat → Option Nat} {rz : Int32} : ∀ (I : Nat → Nat → Int32) (R : Nat → Nat → Option Nat) (v1 : Int32) (v3 : Int32) (v7 : Int64), mi_L_shuts_J293 F I R v1 v3 v7 = some (Iz, Rz, rz) → ∀ {H : Heap} {locs : List Loc} {ls : Array Slot}, mc_P mc_k 152 w I R H → va_S (mc_A 152 w) s.heap H locs → lv_has ls 11 [(0, .ref (w.2.2.1 144)), (1, .int v1), (3, .int v3), (7, .long v7)] → W p l e ({ frames := 8, cells := 0, slots := 0, locals := 184 } : Room) s m args below meth c H locs 0 0 (MQ below (mc_Q (some (.int rz)) (fun t => mc_B mc_k 152 w Iz Rz t ∧ ¬ (rz ≠ 0 ∧ rz ≠ 1)) (mc_A 152 w)) args s 0 0 (mc_A 152 w)) (F0 m 293 ls []) := by
  intro I R v1 v3 v7 h  H locs ls hP hS hl
  have hx := C.1
  have hb := C.2.1
  have hC := And.intro C.1 C.2.1
  unfold mi_L_shuts_J293 at h
  refine lv_aload_n hx hb dL_shuts_293 rfl (lv_at hl 0 rfl) ?_
  obtain ⟨I24, r25, e26, h⟩ := mc_ob2_e h
  refine mg_Vi (As := []) (rest := []) (ct_X8_quietIn l (w := w) (I := I) (R := R) e26) C K hP hS hl.1 kf_144 (by decide) rfl rfl ml_L_43 wy_X8_quietIn wd_X8_quietIn rfl rfl rfl ⟨Nat.le_of_ble_eq_true rfl, Nat.le_of_ble_eq_true rfl⟩ (Nat.le_of_ble_eq_true rfl) ⟨Nat.zero_le _, Nat.zero_le _⟩ dL_shuts_294 (fun H locs hP hS => ?_)
  refine lv_iload_n hx hb dL_shuts_297 rfl (lv_at hl 2 rfl) ?_
  refine lv_sipush (v := (-1005)) hx hb dL_shuts_298 (by decide) ?_
  refine lv_icmp_ne (tgt := 308) hx hb dL_shuts_301 (by decide) (fun c27 => ?_) (fun c27 => ?_)
  · replace h := mc_ie h c27
    refine lv_iload_n hx hb dL_shuts_308 rfl (lv_at hl 2 rfl) ?_
    refine lv_iload_n hx hb dL_shuts_309 rfl (lv_at hl 1 rfl) ?_
    refine lv_icmp_le (tgt := 319) hx hb dL_shuts_310 (by decide) (fun c28 => ?_) (fun c28 => ?_)
    · replace h := mc_it h c28
      refine lv_iconst (v := 0) hx hb dL_shuts_319 (by decide) ?_
      exact bk_L_shuts_J320 C hr hlk K  I24 R v7 0 r25 h  hP hS (lv_sub hl [0, 3] rfl)
    · replace h := mc_ie h c28
      refine lv_iload_n hx hb dL_shuts_313 rfl (lv_at hl 2 rfl) ?_
      refine lv_iload_n hx hb dL_shuts_314 rfl (lv_at hl 1 rfl) ?_
      refine lv_isub hx hb dL_shuts_315 ?_
      refine lv_goto (tgt := 320) hx hb dL_shuts_316 (by decide) ?_
      exact bk_L_shuts_J320 C hr hlk K  I24 R v7 (v3 - v1) r25 h  hP hS (lv_sub hl [0, 3] rfl)
  · replace h := mc_it h c27
    refine lv_iload_n hx hb dL_shuts_304 rfl (lv_at hl 2 rfl) ?_
    refine lv_goto (tgt := 320) hx hb dL_shuts_305 (by decide) ?_
    exact bk_L_shuts_J320 C hr hlk K  I24 R v7 v3 r25 h  hP hS (lv_sub hl [0, 3] rfl)
set_option maxHeartbeats 4000000 in
set_option maxRecDepth 100000 in
theorem bk_L_shuts_J182 {p : Program} {l : Launch} {e : Env} {s : State} {m : MethodId} {args : Array Value} {below : List Frame} {meth : Method} {c : Code} (C : CallFix p m c cL_shuts 11 s args mc_big RL) (hr : meth.sig.returnType = (some .boolean)) (hlk : meth.locks = false) {w : mc_w} (K : mc_K mc_k 152 w s) {F : Nat} {Iz : Nat → Nat → Int32} {Rz : Nat → Nat → Option Nat} {rz : Int32} {k25 : (Nat → Nat → Int32) → (Nat → Nat → Option Nat) → Int32 → Int32 → Int32 → Int32 → Int32 → Int32 → Int32 → (Option ((Nat → Nat → Int32) × (Nat → Nat → Option Nat) × Int32))} (hk25 : ∀ (I : Nat → Nat → Int32) (R : Nat → Nat → Option Nat) (v1 : Int32) (v2 : Int32) (v3 : Int32) (v4 : Int32) (v5 : Int32) (v6 : Int32) (v7 : Int32), k25 I R v1 v2 v3 v4 v5 v6 v7 = some (Iz, Rz, rz) → ∀ {H : Heap} {locs : List Loc} {ls : Array Slot}, mc_P mc_k 152 w I R H → va_S (mc_A 152 w) s.heap H locs → lv_has ls 11 [(0, .ref (w.2.2.1 144)), (1, .int v1), (2, .int v2), (3, .int v3), (4, .int v4), (5, .int v5), (6, .int v6), (7, .int v7)] → W p l e ({ frames := 8, cells := 0, slots := 0, locals := 184 } : Room) s m args below meth c H locs 0 0 (MQ below (mc_Q (some (.int rz)) (fun t => mc_B mc_k 152 w Iz Rz t ∧ ¬ (rz ≠ 0 ∧ rz ≠ 1)) (mc_A 152 w)) args s 0 0 (mc_A 152 w)) (F0 m 25 ls [])) : ∀ (I : Nat → Nat → Int32) (R : Nat → Nat → Option Nat) (v1 : Int32) (v2 : Int32) (v3 : Int32) (v4 : Int32) (v6 : Int32) (v7 : Int32) (v8 : Int32) (s0 : Int32), mi_L_shuts_J182 k25 F I R v1 v2 v3 v4 v6 v7 v8 s0 = some (Iz, Rz, rz) → ∀ {H : Heap} {locs : List Loc} {ls : Array Slot}, mc_P mc_k 152 w I R H → va_S (mc_A 152 w) s.heap H locs → lv_has ls 11 [(0, .ref (w.2.2.1 144)), (1, .int v1), (2, .int v2), (3, .int v3), (4, .int v4), (6, .int v6), (7, .int v7), (8, .int v8)] → W p l e ({ frames := 8, cells := 0, slots := 0, locals := 184 } : Room) s m args below meth c H locs 0 0 (MQ below (mc_Q (some (.int rz)) (fun t => mc_B mc_k 152 w Iz Rz t ∧ ¬ (rz ≠ 0 ∧ rz ≠ 1)) (mc_A 152 w)) args s 0 0 (mc_A 152 w)) (F0 m 182 ls [.int s0]) := by
  intro I R v1 v2 v3 v4 v6 v7 v8 s0 h  H locs ls hP hS hl
  have hx := C.1
  have hb := C.2.1
  have hC := And.intro C.1 C.2.1
  unfold mi_L_shuts_J182 at h
  refine lv_istore (i := 5) (lv' := [(5, .int s0), (0, .ref (w.2.2.1 144)), (1, .int v1), (2, .int v2), (3, .int v3), (4, .int v4), (6, .int v6), (7, .int v7), (8, .int v8)]) hx hb dL_shuts_182 hl (by decide) rfl (fun ls hl => ?_)
  refine lv_iload hx hb dL_shuts_184 (lv_at hl 0 rfl) ?_
  refine lv_iload hx hb dL_shuts_186 (lv_at hl 7 rfl) ?_
  refine lv_icmp_ne (tgt := 202) hx hb dL_shuts_188 (by decide) (fun c64 => ?_) (fun c64 => ?_)
  · replace h := mc_ie h c64
    refine lv_iload hx hb dL_shuts_202 (lv_at hl 6 rfl) ?_
    refine lv_istore (i := 6) (lv' := [(6, .int v6), (5, .int s0), (0, .ref (w.2.2.1 144)), (1, .int v1), (2, .int v2), (3, .int v3), (4, .int v4), (7, .int v7), (8, .int v8)]) hx hb dL_shuts_204 hl (by decide) rfl (fun ls hl => ?_)
    obtain ⟨x65, ex65, h⟩ := mc_bn_e h
    refine lv_iinc (v := x65) (lv' := [(7, .int x65), (6, .int v6), (5, .int s0), (0, .ref (w.2.2.1 144)), (1, .int v1), (2, .int v2), (3, .int v3), (4, .int v4), (8, .int v8)]) hx hb dL_shuts_206 hl (k := 7) rfl (by rw [ex65]; rfl) (by decide) rfl (fun ls hl => ?_)
    refine lv_goto (tgt := 25) hx hb dL_shuts_209 (by decide) ?_
    exact hk25 I R v1 v2 v3 v4 s0 v6 x65 h  hP hS (lv_sub hl [3, 4, 5, 6, 7, 2, 1, 0] rfl)
  · replace h := mc_it h c64
    refine lv_aload_n hx hb dL_shuts_191 rfl (lv_at hl 1 rfl) ?_
    refine lv_iconst (v := 0) hx hb dL_shuts_192 (by decide) ?_
    obtain ⟨r66, e67, h⟩ := mc_ob_e h
    refine mg_Vi (As := [.int 0]) (rest := []) (ct_X8_count l (w := w) (I := I) (R := R) e67) C K hP hS hl.1 kf_144 (by decide) rfl rfl ml_L_10 wy_X8_count wd_X8_count rfl rfl rfl ⟨Nat.le_of_ble_eq_true rfl, Nat.le_of_ble_eq_true rfl⟩ (Nat.le_of_ble_eq_true rfl) ⟨Nat.zero_le _, Nat.zero_le _⟩ dL_shuts_193 (fun H locs hP hS => ?_)
    refine lv_iload hx hb dL_shuts_196 (lv_at hl 8 rfl) ?_
    refine lv_iadd hx hb dL_shuts_198 ?_
    refine lv_goto (tgt := 204) hx hb dL_shuts_199 (by decide) ?_
    obtain ⟨x68, ex68, h⟩ := mc_bn_e h
    refine mv_top ex68 ?_
    refine lv_istore (i := 6) (lv' := [(6, .int x68), (5, .int s0), (0, .ref (w.2.2.1 144)), (1, .int v1), (2, .int v2), (3, .int v3), (4, .int v4), (7, .int v7), (8, .int v8)]) hx hb dL_shuts_204 hl (by decide) rfl (fun ls hl => ?_)
    obtain ⟨x69, ex69, h⟩ := mc_bn_e h
    refine lv_iinc (v := x69) (lv' := [(7, .int x69), (6, .int x68), (5, .int s0), (0, .ref (w.2.2.1 144)), (1, .int v1), (2, .int v2), (3, .int v3), (4, .int v4), (8, .int v8)]) hx hb dL_shuts_206 hl (k := 7) rfl (by rw [ex69]; rfl) (by decide) rfl (fun ls hl => ?_)
    refine lv_goto (tgt := 25) hx hb dL_shuts_209 (by decide) ?_
    exact hk25 I R v1 v2 v3 v4 s0 x68 x69 h  hP hS (lv_sub hl [3, 4, 5, 6, 7, 2, 1, 0] rfl)
set_option maxHeartbeats 4000000 in
set_option maxRecDepth 100000 in
theorem bk_L_shuts_J161 {p : Program} {l : Launch} {e : Env} {s : State} {m : MethodId} {args : Array Value} {below : List Frame} {meth : Method} {c : Code} (C : CallFix p m c cL_shuts 11 s args mc_big RL) (hr : meth.sig.returnType = (some .boolean)) (hlk : meth.locks = false) {w : mc_w} (K : mc_K mc_k 152 w s) {F : Nat} {Iz : Nat → Nat → Int32} {Rz : Nat → Nat → Option Nat} {rz : Int32} {k25 : (Nat → Nat → Int32) → (Nat → Nat → Option Nat) → Int32 → Int32 → Int32 → Int32 → Int32 → Int32 → Int32 → (Option ((Nat → Nat → Int32) × (Nat → Nat → Option Nat) × Int32))} (hk25 : ∀ (I : Nat → Nat → Int32) (R : Nat → Nat → Option Nat) (v1 : Int32) (v2 : Int32) (v3 : Int32) (v4 : Int32) (v5 : Int32) (v6 : Int32) (v7 : Int32), k25 I R v1 v2 v3 v4 v5 v6 v7 = some (Iz, Rz, rz) → ∀ {H : Heap} {locs : List Loc} {ls : Array Slot}, mc_P mc_k 152 w I R H → va_S (mc_A 152 w) s.heap H locs → lv_has ls 11 [(0, .ref (w.2.2.1 144)), (1, .int v1), (2, .int v2), (3, .int v3), (4, .int v4), (5, .int v5), (6, .int v6), (7, .int v7)] → W p l e ({ frames := 8, cells := 0, slots := 0, locals := 184 } : Room) s m args below meth c H locs 0 0 (MQ below (mc_Q (some (.int rz)) (fun t => mc_B mc_k 152 w Iz Rz t ∧ ¬ (rz ≠ 0 ∧ rz ≠ 1)) (mc_A 152 w)) args s 0 0 (mc_A 152 w)) (F0 m 25 ls [])) : ∀ (I : Nat → Nat → Int32) (R : Nat → Nat → Option Nat) (v1 : Int32) (v2 : Int32) (v3 : Int32) (v5 : Int32) (v6 : Int32) (v7 : Int32) (v8 : Int32) (v9 : Int32) (s0 : Int32) (s1 : Int32), mi_L_shuts_J161 k25 F I R v1 v2 v3 v5 v6 v7 v8 v9 s0 s1 = some (Iz, Rz, rz) → ∀ {H : Heap} {locs : List Loc} {ls : Array Slot}, mc_P mc_k 152 w I R H → va_S (mc_A 152 w) s.heap H locs → lv_has ls 11 [(0, .ref (w.2.2.1 144)), (1, .int v1), (2, .int v2), (3, .int v3), (5, .int v5), (6, .int v6), (7, .int v7), (8, .int v8), (9, .int v9)] → W p l e ({ frames := 8, cells := 0, slots := 0, locals := 184 } : Room) s m args below meth c H locs 0 0 (MQ below (mc_Q (some (.int rz)) (fun t => mc_B mc_k 152 w Iz Rz t ∧ ¬ (rz ≠ 0 ∧ rz ≠ 1)) (mc_A 152 w)) args s 0 0 (mc_A 152 w)) (F0 m 161 ls [.int s0, .int s1]) := by
  intro I R v1 v2 v3 v5 v6 v7 v8 v9 s0 s1 h  H locs ls hP hS hl
  have hx := C.1
  have hb := C.2.1
  have hC := And.intro C.1 C.2.1
  unfold mi_L_shuts_J161 at h
  refine lv_iadd hx hb dL_shuts_161 ?_
  obtain ⟨x62, ex62, h⟩ := mc_bn_e h
  refine mv_top ex62 ?_
  refine lv_istore (i := 4) (lv' := [(4, .int x62), (0, .ref (w.2.2.1 144)), (1, .int v1), (2, .int v2), (3, .int v3), (5, .int v5), (6, .int v6), (7, .int v7), (8, .int v8), (9, .int v9)]) hx hb dL_shuts_162 hl (by decide) rfl (fun ls hl => ?_)
  refine lv_iload hx hb dL_shuts_164 (lv_at hl 9 rfl) ?_
  refine lv_if_ne (tgt := 180) hx hb dL_shuts_166 (by decide) (fun c63 => ?_) (fun c63 => ?_)
  · replace h := mc_ie h c63
    refine lv_iload hx hb dL_shuts_180 (lv_at hl 5 rfl) ?_
    exact bk_L_shuts_J182 C hr hlk K hk25 I R v1 v2 v3 x62 v6 v7 v8 v5 h  hP hS (lv_sub hl [1, 2, 3, 4, 0, 6, 7, 8] rfl)
  · replace h := mc_it h c63
    refine lv_iload hx hb dL_shuts_169 (lv_at hl 8 rfl) ?_
    refine lv_iload_n hx hb dL_shuts_171 rfl (lv_at hl 2 rfl) ?_
    refine lv_icmp_gt (tgt := 180) hx hb dL_shuts_172 (by decide) (fun c70 => ?_) (fun c70 => ?_)
    · replace h := mc_it h c70
      refine lv_iload hx hb dL_shuts_180 (lv_at hl 5 rfl) ?_
      exact bk_L_shuts_J182 C hr hlk K hk25 I R v1 v2 v3 x62 v6 v7 v8 v5 h  hP hS (lv_sub hl [1, 2, 3, 4, 0, 6, 7, 8] rfl)
    · replace h := mc_ie h c70
      refine lv_iload hx hb dL_shuts_175 (lv_at hl 7 rfl) ?_
      refine lv_goto (tgt := 182) hx hb dL_shuts_177 (by decide) ?_
      exact bk_L_shuts_J182 C hr hlk K hk25 I R v1 v2 v3 x62 v6 v7 v8 v7 h  hP hS (lv_sub hl [1, 2, 3, 4, 0, 6, 7, 8] rfl)
set_option maxHeartbeats 4000000 in
set_option maxRecDepth 100000 in
theorem bk_L_shuts_J138 {p : Program} {l : Launch} {e : Env} {s : State} {m : MethodId} {args : Array Value} {below : List Frame} {meth : Method} {c : Code} (C : CallFix p m c cL_shuts 11 s args mc_big RL) (hr : meth.sig.returnType = (some .boolean)) (hlk : meth.locks = false) {w : mc_w} (K : mc_K mc_k 152 w s) {F : Nat} {Iz : Nat → Nat → Int32} {Rz : Nat → Nat → Option Nat} {rz : Int32} {k25 : (Nat → Nat → Int32) → (Nat → Nat → Option Nat) → Int32 → Int32 → Int32 → Int32 → Int32 → Int32 → Int32 → (Option ((Nat → Nat → Int32) × (Nat → Nat → Option Nat) × Int32))} (hk25 : ∀ (I : Nat → Nat → Int32) (R : Nat → Nat → Option Nat) (v1 : Int32) (v2 : Int32) (v3 : Int32) (v4 : Int32) (v5 : Int32) (v6 : Int32) (v7 : Int32), k25 I R v1 v2 v3 v4 v5 v6 v7 = some (Iz, Rz, rz) → ∀ {H : Heap} {locs : List Loc} {ls : Array Slot}, mc_P mc_k 152 w I R H → va_S (mc_A 152 w) s.heap H locs → lv_has ls 11 [(0, .ref (w.2.2.1 144)), (1, .int v1), (2, .int v2), (3, .int v3), (4, .int v4), (5, .int v5), (6, .int v6), (7, .int v7)] → W p l e ({ frames := 8, cells := 0, slots := 0, locals := 184 } : Room) s m args below meth c H locs 0 0 (MQ below (mc_Q (some (.int rz)) (fun t => mc_B mc_k 152 w Iz Rz t ∧ ¬ (rz ≠ 0 ∧ rz ≠ 1)) (mc_A 152 w)) args s 0 0 (mc_A 152 w)) (F0 m 25 ls [])) : ∀ (I : Nat → Nat → Int32) (R : Nat → Nat → Option Nat) (v1 : Int32) (v2 : Int32) (v3 : Int32) (v4 : Int32) (v5 : Int32) (v6 : Int32) (v7 : Int32) (v8 : Int32) (v9 : Int32) (s0 : Int32) (s1 : Int32), mi_L_shuts_J138 k25 F I R v1 v2 v3 v4 v5 v6 v7 v8 v9 s0 s1 = some (Iz, Rz, rz) → ∀ {H : Heap} {locs : List Loc} {ls : Array Slot}, mc_P mc_k 152 w I R H → va_S (mc_A 152 w) s.heap H locs → lv_has ls 11 [(0, .ref (w.2.2.1 144)), (1, .int v1), (2, .int v2), (3, .int v3), (4, .int v4), (5, .int v5), (6, .int v6), (7, .int v7), (8, .int v8), (9, .int v9)] → W p l e ({ frames := 8, cells := 0, slots := 0, locals := 184 } : Room) s m args below meth c H locs 0 0 (MQ below (mc_Q (some (.int rz)) (fun t => mc_B mc_k 152 w Iz Rz t ∧ ¬ (rz ≠ 0 ∧ rz ≠ 1)) (mc_A 152 w)) args s 0 0 (mc_A 152 w)) (F0 m 138 ls [.int s0, .int s1]) := by
  intro I R v1 v2 v3 v4 v5 v6 v7 v8 v9 s0 s1 h  H locs ls hP hS hl
  have hx := C.1
  have hb := C.2.1
  have hC := And.intro C.1 C.2.1
  unfold mi_L_shuts_J138 at h
  refine lv_icmp_eq (tgt := 143) hx hb dL_shuts_138 (by decide) (fun c60 => ?_) (fun c60 => ?_)
  · replace h := mc_it h c60
    refine lv_iload hx hb dL_shuts_143 (lv_at hl 4 rfl) ?_
    refine lv_iload hx hb dL_shuts_145 (lv_at hl 9 rfl) ?_
    refine lv_if_ne (tgt := 160) hx hb dL_shuts_147 (by decide) (fun c61 => ?_) (fun c61 => ?_)
    · replace h := mc_ie h c61
      refine lv_iconst (v := 0) hx hb dL_shuts_160 (by decide) ?_
      exact bk_L_shuts_J161 C hr hlk K hk25 I R v1 v2 v3 v5 v6 v7 v8 v9 0 v4 h  hP hS (lv_sub hl [0, 1, 2, 3, 5, 6, 7, 8, 9] rfl)
    · replace h := mc_it h c61
      refine lv_iload hx hb dL_shuts_150 (lv_at hl 8 rfl) ?_
      refine lv_iload_n hx hb dL_shuts_152 rfl (lv_at hl 1 rfl) ?_
      refine lv_icmp_gt (tgt := 160) hx hb dL_shuts_153 (by decide) (fun c71 => ?_) (fun c71 => ?_)
      · replace h := mc_it h c71
        refine lv_iconst (v := 0) hx hb dL_shuts_160 (by decide) ?_
        exact bk_L_shuts_J161 C hr hlk K hk25 I R v1 v2 v3 v5 v6 v7 v8 v9 0 v4 h  hP hS (lv_sub hl [0, 1, 2, 3, 5, 6, 7, 8, 9] rfl)
      · replace h := mc_ie h c71
        refine lv_iconst (v := 1) hx hb dL_shuts_156 (by decide) ?_
        refine lv_goto (tgt := 161) hx hb dL_shuts_157 (by decide) ?_
        exact bk_L_shuts_J161 C hr hlk K hk25 I R v1 v2 v3 v5 v6 v7 v8 v9 1 v4 h  hP hS (lv_sub hl [0, 1, 2, 3, 5, 6, 7, 8, 9] rfl)
  · replace h := mc_ie h c60
    refine lv_iconst (v := 0) hx hb dL_shuts_141 (by decide) ?_
    cases h
    exact mt_zX hC hr hlk K hP hS (by decide) (by decide) dL_shuts_142
set_option maxHeartbeats 4000000 in
set_option maxRecDepth 100000 in
theorem bk_L_shuts_J122 {p : Program} {l : Launch} {e : Env} {s : State} {m : MethodId} {args : Array Value} {below : List Frame} {meth : Method} {c : Code} (C : CallFix p m c cL_shuts 11 s args mc_big RL) (hr : meth.sig.returnType = (some .boolean)) (hlk : meth.locks = false) {w : mc_w} (K : mc_K mc_k 152 w s) {F : Nat} {Iz : Nat → Nat → Int32} {Rz : Nat → Nat → Option Nat} {rz : Int32} {k25 : (Nat → Nat → Int32) → (Nat → Nat → Option Nat) → Int32 → Int32 → Int32 → Int32 → Int32 → Int32 → Int32 → (Option ((Nat → Nat → Int32) × (Nat → Nat → Option Nat) × Int32))} (hk25 : ∀ (I : Nat → Nat → Int32) (R : Nat → Nat → Option Nat) (v1 : Int32) (v2 : Int32) (v3 : Int32) (v4 : Int32) (v5 : Int32) (v6 : Int32) (v7 : Int32), k25 I R v1 v2 v3 v4 v5 v6 v7 = some (Iz, Rz, rz) → ∀ {H : Heap} {locs : List Loc} {ls : Array Slot}, mc_P mc_k 152 w I R H → va_S (mc_A 152 w) s.heap H locs → lv_has ls 11 [(0, .ref (w.2.2.1 144)), (1, .int v1), (2, .int v2), (3, .int v3), (4, .int v4), (5, .int v5), (6, .int v6), (7, .int v7)] → W p l e ({ frames := 8, cells := 0, slots := 0, locals := 184 } : Room) s m args below meth c H locs 0 0 (MQ below (mc_Q (some (.int rz)) (fun t => mc_B mc_k 152 w Iz Rz t ∧ ¬ (rz ≠ 0 ∧ rz ≠ 1)) (mc_A 152 w)) args s 0 0 (mc_A 152 w)) (F0 m 25 ls [])) : ∀ (I : Nat → Nat → Int32) (R : Nat → Nat → Option Nat) (v1 : Int32) (v2 : Int32) (v3 : Int32) (v4 : Int32) (v5 : Int32) (v6 : Int32) (v7 : Int32) (v8 : Int32) (v9 : Int32) (s0 : Int32), mi_L_shuts_J122 k25 F I R v1 v2 v3 v4 v5 v6 v7 v8 v9 s0 = some (Iz, Rz, rz) → ∀ {H : Heap} {locs : List Loc} {ls : Array Slot}, mc_P mc_k 152 w I R H → va_S (mc_A 152 w) s.heap H locs → lv_has ls 11 [(0, .ref (w.2.2.1 144)), (1, .int v1), (2, .int v2), (3, .int v3), (4, .int v4), (5, .int v5), (6, .int v6), (7, .int v7), (8, .int v8), (9, .int v9)] → W p l e ({ frames := 8, cells := 0, slots := 0, locals := 184 } : Room) s m args below meth c H locs 0 0 (MQ below (mc_Q (some (.int rz)) (fun t => mc_B mc_k 152 w Iz Rz t ∧ ¬ (rz ≠ 0 ∧ rz ≠ 1)) (mc_A 152 w)) args s 0 0 (mc_A 152 w)) (F0 m 122 ls [.int s0]) := by
  intro I R v1 v2 v3 v4 v5 v6 v7 v8 v9 s0 h  H locs ls hP hS hl
  have hx := C.1
  have hb := C.2.1
  have hC := And.intro C.1 C.2.1
  unfold mi_L_shuts_J122 at h
  refine lv_aload_n hx hb dL_shuts_122 rfl (lv_at hl 0 rfl) ?_
  refine lv_iload hx hb dL_shuts_123 (lv_at hl 7 rfl) ?_
  refine lv_iconst (v := 3) hx hb dL_shuts_125 (by decide) ?_
  obtain ⟨r57, e58, h⟩ := mc_ob_e h
  refine mg_Vi (As := [.int v7, .int 3]) (rest := [.int s0]) (ct_X8_bottle l (w := w) (I := I) (R := R) e58) C K hP hS hl.1 kf_144 (by decide) rfl rfl ml_L_16 wy_X8_bottle wd_X8_bottle rfl rfl rfl ⟨Nat.le_of_ble_eq_true rfl, Nat.le_of_ble_eq_true rfl⟩ (Nat.le_of_ble_eq_true rfl) ⟨Nat.zero_le _, Nat.zero_le _⟩ dL_shuts_126 (fun H locs hP hS => ?_)
  refine lv_iconst (v := 1) hx hb dL_shuts_129 (by decide) ?_
  refine lv_icmp_ne (tgt := 137) hx hb dL_shuts_130 (by decide) (fun c59 => ?_) (fun c59 => ?_)
  · replace h := mc_ie h c59
    refine lv_iconst (v := 0) hx hb dL_shuts_137 (by decide) ?_
    exact bk_L_shuts_J138 C hr hlk K hk25 I R v1 v2 v3 v4 v5 v6 v7 v8 v9 0 s0 h  hP hS (lv_sub hl [0, 1, 2, 3, 4, 5, 6, 7, 8, 9] rfl)
  · replace h := mc_it h c59
    refine lv_iconst (v := 1) hx hb dL_shuts_133 (by decide) ?_
    refine lv_goto (tgt := 138) hx hb dL_shuts_134 (by decide) ?_
    exact bk_L_shuts_J138 C hr hlk K hk25 I R v1 v2 v3 v4 v5 v6 v7 v8 v9 1 s0 h  hP hS (lv_sub hl [0, 1, 2, 3, 4, 5, 6, 7, 8, 9] rfl)
set_option maxHeartbeats 4000000 in
set_option maxRecDepth 100000 in
theorem bk_L_shuts_J111 {p : Program} {l : Launch} {e : Env} {s : State} {m : MethodId} {args : Array Value} {below : List Frame} {meth : Method} {c : Code} (C : CallFix p m c cL_shuts 11 s args mc_big RL) (hr : meth.sig.returnType = (some .boolean)) (hlk : meth.locks = false) {w : mc_w} (K : mc_K mc_k 152 w s) {F : Nat} {Iz : Nat → Nat → Int32} {Rz : Nat → Nat → Option Nat} {rz : Int32} {k25 : (Nat → Nat → Int32) → (Nat → Nat → Option Nat) → Int32 → Int32 → Int32 → Int32 → Int32 → Int32 → Int32 → (Option ((Nat → Nat → Int32) × (Nat → Nat → Option Nat) × Int32))} (hk25 : ∀ (I : Nat → Nat → Int32) (R : Nat → Nat → Option Nat) (v1 : Int32) (v2 : Int32) (v3 : Int32) (v4 : Int32) (v5 : Int32) (v6 : Int32) (v7 : Int32), k25 I R v1 v2 v3 v4 v5 v6 v7 = some (Iz, Rz, rz) → ∀ {H : Heap} {locs : List Loc} {ls : Array Slot}, mc_P mc_k 152 w I R H → va_S (mc_A 152 w) s.heap H locs → lv_has ls 11 [(0, .ref (w.2.2.1 144)), (1, .int v1), (2, .int v2), (3, .int v3), (4, .int v4), (5, .int v5), (6, .int v6), (7, .int v7)] → W p l e ({ frames := 8, cells := 0, slots := 0, locals := 184 } : Room) s m args below meth c H locs 0 0 (MQ below (mc_Q (some (.int rz)) (fun t => mc_B mc_k 152 w Iz Rz t ∧ ¬ (rz ≠ 0 ∧ rz ≠ 1)) (mc_A 152 w)) args s 0 0 (mc_A 152 w)) (F0 m 25 ls [])) : ∀ (I : Nat → Nat → Int32) (R : Nat → Nat → Option Nat) (v1 : Int32) (v2 : Int32) (v3 : Int32) (v4 : Int32) (v5 : Int32) (v6 : Int32) (v7 : Int32) (v8 : Int32) (v9 : Int32), mi_L_shuts_J111 k25 F I R v1 v2 v3 v4 v5 v6 v7 v8 v9 = some (Iz, Rz, rz) → ∀ {H : Heap} {locs : List Loc} {ls : Array Slot}, mc_P mc_k 152 w I R H → va_S (mc_A 152 w) s.heap H locs → lv_has ls 11 [(0, .ref (w.2.2.1 144)), (1, .int v1), (2, .int v2), (3, .int v3), (4, .int v4), (5, .int v5), (6, .int v6), (7, .int v7), (8, .int v8), (9, .int v9)] → W p l e ({ frames := 8, cells := 0, slots := 0, locals := 184 } : Room) s m args below meth c H locs 0 0 (MQ below (mc_Q (some (.int rz)) (fun t => mc_B mc_k 152 w Iz Rz t ∧ ¬ (rz ≠ 0 ∧ rz ≠ 1)) (mc_A 152 w)) args s 0 0 (mc_A 152 w)) (F0 m 111 ls []) := by
  intro I R v1 v2 v3 v4 v5 v6 v7 v8 v9 h  H locs ls hP hS hl
  have hx := C.1
  have hb := C.2.1
  have hC := And.intro C.1 C.2.1
  unfold mi_L_shuts_J111 at h
  refine lv_iload hx hb dL_shuts_111 (lv_at hl 9 rfl) ?_
  refine lv_iconst (v := 1) hx hb dL_shuts_113 (by decide) ?_
  refine lv_icmp_ne (tgt := 121) hx hb dL_shuts_114 (by decide) (fun c56 => ?_) (fun c56 => ?_)
  · replace h := mc_ie h c56
    refine lv_iconst (v := 0) hx hb dL_shuts_121 (by decide) ?_
    exact bk_L_shuts_J122 C hr hlk K hk25 I R v1 v2 v3 v4 v5 v6 v7 v8 v9 0 h  hP hS (lv_sub hl [0, 1, 2, 3, 4, 5, 6, 7, 8, 9] rfl)
  · replace h := mc_it h c56
    refine lv_iconst (v := 1) hx hb dL_shuts_117 (by decide) ?_
    refine lv_goto (tgt := 122) hx hb dL_shuts_118 (by decide) ?_
    exact bk_L_shuts_J122 C hr hlk K hk25 I R v1 v2 v3 v4 v5 v6 v7 v8 v9 1 h  hP hS (lv_sub hl [0, 1, 2, 3, 4, 5, 6, 7, 8, 9] rfl)
set_option maxHeartbeats 4000000 in
set_option maxRecDepth 100000 in
theorem bk_L_shuts_J70 {p : Program} {l : Launch} {e : Env} {s : State} {m : MethodId} {args : Array Value} {below : List Frame} {meth : Method} {c : Code} (C : CallFix p m c cL_shuts 11 s args mc_big RL) (hr : meth.sig.returnType = (some .boolean)) (hlk : meth.locks = false) {w : mc_w} (K : mc_K mc_k 152 w s) {F : Nat} {Iz : Nat → Nat → Int32} {Rz : Nat → Nat → Option Nat} {rz : Int32} {k25 : (Nat → Nat → Int32) → (Nat → Nat → Option Nat) → Int32 → Int32 → Int32 → Int32 → Int32 → Int32 → Int32 → (Option ((Nat → Nat → Int32) × (Nat → Nat → Option Nat) × Int32))} (hk25 : ∀ (I : Nat → Nat → Int32) (R : Nat → Nat → Option Nat) (v1 : Int32) (v2 : Int32) (v3 : Int32) (v4 : Int32) (v5 : Int32) (v6 : Int32) (v7 : Int32), k25 I R v1 v2 v3 v4 v5 v6 v7 = some (Iz, Rz, rz) → ∀ {H : Heap} {locs : List Loc} {ls : Array Slot}, mc_P mc_k 152 w I R H → va_S (mc_A 152 w) s.heap H locs → lv_has ls 11 [(0, .ref (w.2.2.1 144)), (1, .int v1), (2, .int v2), (3, .int v3), (4, .int v4), (5, .int v5), (6, .int v6), (7, .int v7)] → W p l e ({ frames := 8, cells := 0, slots := 0, locals := 184 } : Room) s m args below meth c H locs 0 0 (MQ below (mc_Q (some (.int rz)) (fun t => mc_B mc_k 152 w Iz Rz t ∧ ¬ (rz ≠ 0 ∧ rz ≠ 1)) (mc_A 152 w)) args s 0 0 (mc_A 152 w)) (F0 m 25 ls [])) : ∀ (I : Nat → Nat → Int32) (R : Nat → Nat → Option Nat) (v1 : Int32) (v2 : Int32) (v3 : Int32) (v4 : Int32) (v5 : Int32) (v6 : Int32) (v7 : Int32) (v8 : Int32) (v9 : Int32) (s0 : Int32) (s1 : Int32), mi_L_shuts_J70 k25 F I R v1 v2 v3 v4 v5 v6 v7 v8 v9 s0 s1 = some (Iz, Rz, rz) → ∀ {H : Heap} {locs : List Loc} {ls : Array Slot}, mc_P mc_k 152 w I R H → va_S (mc_A 152 w) s.heap H locs → lv_has ls 11 [(0, .ref (w.2.2.1 144)), (1, .int v1), (2, .int v2), (3, .int v3), (4, .int v4), (5, .int v5), (6, .int v6), (7, .int v7), (8, .int v8), (9, .int v9)] → W p l e ({ frames := 8, cells := 0, slots := 0, locals := 184 } : Room) s m args below meth c H locs 0 0 (MQ below (mc_Q (some (.int rz)) (fun t => mc_B mc_k 152 w Iz Rz t ∧ ¬ (rz ≠ 0 ∧ rz ≠ 1)) (mc_A 152 w)) args s 0 0 (mc_A 152 w)) (F0 m 70 ls [.int s0, .int s1]) := by
  intro I R v1 v2 v3 v4 v5 v6 v7 v8 v9 s0 s1 h  H locs ls hP hS hl
  have hx := C.1
  have hb := C.2.1
  have hC := And.intro C.1 C.2.1
  unfold mi_L_shuts_J70 at h
  refine lv_icmp_ne (tgt := 141) hx hb dL_shuts_70 (by decide) (fun c52 => ?_) (fun c52 => ?_)
  · replace h := mc_ie h c52
    refine lv_iconst (v := 0) hx hb dL_shuts_141 (by decide) ?_
    cases h
    exact mt_zX hC hr hlk K hP hS (by decide) (by decide) dL_shuts_142
  · replace h := mc_it h c52
    refine lv_iload hx hb dL_shuts_73 (lv_at hl 9 rfl) ?_
    refine lv_if_lt (tgt := 141) hx hb dL_shuts_75 (by decide) (fun c53 => ?_) (fun c53 => ?_)
    · replace h := mc_it h c53
      refine lv_iconst (v := 0) hx hb dL_shuts_141 (by decide) ?_
      cases h
      exact mt_zX hC hr hlk K hP hS (by decide) (by decide) dL_shuts_142
    · replace h := mc_ie h c53
      refine lv_iload hx hb dL_shuts_78 (lv_at hl 9 rfl) ?_
      refine lv_iconst (v := 5) hx hb dL_shuts_80 (by decide) ?_
      refine lv_icmp_gt (tgt := 141) hx hb dL_shuts_81 (by decide) (fun c54 => ?_) (fun c54 => ?_)
      · replace h := mc_it h c54
        refine lv_iconst (v := 0) hx hb dL_shuts_141 (by decide) ?_
        cases h
        exact mt_zX hC hr hlk K hP hS (by decide) (by decide) dL_shuts_142
      · replace h := mc_ie h c54
        refine lv_iload hx hb dL_shuts_84 (lv_at hl 8 rfl) ?_
        refine lv_sipush (v := (-1005)) hx hb dL_shuts_86 (by decide) ?_
        refine lv_icmp_eq (tgt := 111) hx hb dL_shuts_89 (by decide) (fun c55 => ?_) (fun c55 => ?_)
        · replace h := mc_it h c55
          exact bk_L_shuts_J111 C hr hlk K hk25 I R v1 v2 v3 v4 v5 v6 v7 v8 v9 h  hP hS (lv_sub hl [0, 1, 2, 3, 4, 5, 6, 7, 8, 9] rfl)
        · replace h := mc_ie h c55
          refine lv_iload hx hb dL_shuts_92 (lv_at hl 8 rfl) ?_
          refine lv_iconst (v := 1) hx hb dL_shuts_94 (by decide) ?_
          refine lv_icmp_lt (tgt := 141) hx hb dL_shuts_95 (by decide) (fun c72 => ?_) (fun c72 => ?_)
          · replace h := mc_it h c72
            refine lv_iconst (v := 0) hx hb dL_shuts_141 (by decide) ?_
            cases h
            exact mt_zX hC hr hlk K hP hS (by decide) (by decide) dL_shuts_142
          · replace h := mc_ie h c72
            refine lv_iload_n hx hb dL_shuts_98 rfl (lv_at hl 3 rfl) ?_
            refine lv_sipush (v := (-1005)) hx hb dL_shuts_99 (by decide) ?_
            refine lv_icmp_eq (tgt := 141) hx hb dL_shuts_102 (by decide) (fun c73 => ?_) (fun c73 => ?_)
            · replace h := mc_it h c73
              refine lv_iconst (v := 0) hx hb dL_shuts_141 (by decide) ?_
              cases h
              exact mt_zX hC hr hlk K hP hS (by decide) (by decide) dL_shuts_142
            · replace h := mc_ie h c73
              refine lv_iload hx hb dL_shuts_105 (lv_at hl 8 rfl) ?_
              refine lv_iload_n hx hb dL_shuts_107 rfl (lv_at hl 3 rfl) ?_
              refine lv_icmp_gt (tgt := 141) hx hb dL_shuts_108 (by decide) (fun c74 => ?_) (fun c74 => ?_)
              · replace h := mc_it h c74
                refine lv_iconst (v := 0) hx hb dL_shuts_141 (by decide) ?_
                cases h
                exact mt_zX hC hr hlk K hP hS (by decide) (by decide) dL_shuts_142
              · replace h := mc_ie h c74
                exact bk_L_shuts_J111 C hr hlk K hk25 I R v1 v2 v3 v4 v5 v6 v7 v8 v9 h  hP hS (lv_sub hl [0, 1, 2, 3, 4, 5, 6, 7, 8, 9] rfl)
set_option maxHeartbeats 4000000 in
set_option maxRecDepth 100000 in
theorem bk_L_shuts_J57 {p : Program} {l : Launch} {e : Env} {s : State} {m : MethodId} {args : Array Value} {below : List Frame} {meth : Method} {c : Code} (C : CallFix p m c cL_shuts 11 s args mc_big RL) (hr : meth.sig.returnType = (some .boolean)) (hlk : meth.locks = false) {w : mc_w} (K : mc_K mc_k 152 w s) {F : Nat} {Iz : Nat → Nat → Int32} {Rz : Nat → Nat → Option Nat} {rz : Int32} {k25 : (Nat → Nat → Int32) → (Nat → Nat → Option Nat) → Int32 → Int32 → Int32 → Int32 → Int32 → Int32 → Int32 → (Option ((Nat → Nat → Int32) × (Nat → Nat → Option Nat) × Int32))} (hk25 : ∀ (I : Nat → Nat → Int32) (R : Nat → Nat → Option Nat) (v1 : Int32) (v2 : Int32) (v3 : Int32) (v4 : Int32) (v5 : Int32) (v6 : Int32) (v7 : Int32), k25 I R v1 v2 v3 v4 v5 v6 v7 = some (Iz, Rz, rz) → ∀ {H : Heap} {locs : List Loc} {ls : Array Slot}, mc_P mc_k 152 w I R H → va_S (mc_A 152 w) s.heap H locs → lv_has ls 11 [(0, .ref (w.2.2.1 144)), (1, .int v1), (2, .int v2), (3, .int v3), (4, .int v4), (5, .int v5), (6, .int v6), (7, .int v7)] → W p l e ({ frames := 8, cells := 0, slots := 0, locals := 184 } : Room) s m args below meth c H locs 0 0 (MQ below (mc_Q (some (.int rz)) (fun t => mc_B mc_k 152 w Iz Rz t ∧ ¬ (rz ≠ 0 ∧ rz ≠ 1)) (mc_A 152 w)) args s 0 0 (mc_A 152 w)) (F0 m 25 ls [])) : ∀ (I : Nat → Nat → Int32) (R : Nat → Nat → Option Nat) (v1 : Int32) (v2 : Int32) (v3 : Int32) (v4 : Int32) (v5 : Int32) (v6 : Int32) (v7 : Int32) (v8 : Int32) (v9 : Int32) (s0 : Int32), mi_L_shuts_J57 k25 F I R v1 v2 v3 v4 v5 v6 v7 v8 v9 s0 = some (Iz, Rz, rz) → ∀ {H : Heap} {locs : List Loc} {ls : Array Slot}, mc_P mc_k 152 w I R H → va_S (mc_A 152 w) s.heap H locs → lv_has ls 11 [(0, .ref (w.2.2.1 144)), (1, .int v1), (2, .int v2), (3, .int v3), (4, .int v4), (5, .int v5), (6, .int v6), (7, .int v7), (8, .int v8), (9, .int v9)] → W p l e ({ frames := 8, cells := 0, slots := 0, locals := 184 } : Room) s m args below meth c H locs 0 0 (MQ below (mc_Q (some (.int rz)) (fun t => mc_B mc_k 152 w Iz Rz t ∧ ¬ (rz ≠ 0 ∧ rz ≠ 1)) (mc_A 152 w)) args s 0 0 (mc_A 152 w)) (F0 m 57 ls [.int s0]) := by
  intro I R v1 v2 v3 v4 v5 v6 v7 v8 v9 s0 h  H locs ls hP hS hl
  have hx := C.1
  have hb := C.2.1
  have hC := And.intro C.1 C.2.1
  unfold mi_L_shuts_J57 at h
  refine lv_iload hx hb dL_shuts_57 (lv_at hl 8 rfl) ?_
  refine lv_sipush (v := (-1005)) hx hb dL_shuts_59 (by decide) ?_
  refine lv_icmp_eq (tgt := 69) hx hb dL_shuts_62 (by decide) (fun c51 => ?_) (fun c51 => ?_)
  · replace h := mc_it h c51
    refine lv_iconst (v := 0) hx hb dL_shuts_69 (by decide) ?_
    exact bk_L_shuts_J70 C hr hlk K hk25 I R v1 v2 v3 v4 v5 v6 v7 v8 v9 0 s0 h  hP hS (lv_sub hl [0, 1, 2, 3, 4, 5, 6, 7, 8, 9] rfl)
  · replace h := mc_ie h c51
    refine lv_iconst (v := 1) hx hb dL_shuts_65 (by decide) ?_
    refine lv_goto (tgt := 70) hx hb dL_shuts_66 (by decide) ?_
    exact bk_L_shuts_J70 C hr hlk K hk25 I R v1 v2 v3 v4 v5 v6 v7 v8 v9 1 s0 h  hP hS (lv_sub hl [0, 1, 2, 3, 4, 5, 6, 7, 8, 9] rfl)
set_option maxHeartbeats 4000000 in
set_option maxRecDepth 100000 in
theorem bk_L_shuts_B25 {p : Program} {l : Launch} {e : Env} {s : State} {m : MethodId} {args : Array Value} {below : List Frame} {meth : Method} {c : Code} (C : CallFix p m c cL_shuts 11 s args mc_big RL) (hr : meth.sig.returnType = (some .boolean)) (hlk : meth.locks = false) {w : mc_w} (K : mc_K mc_k 152 w s) {F : Nat} {Iz : Nat → Nat → Int32} {Rz : Nat → Nat → Option Nat} {rz : Int32} {k25 : (Nat → Nat → Int32) → (Nat → Nat → Option Nat) → Int32 → Int32 → Int32 → Int32 → Int32 → Int32 → Int32 → (Option ((Nat → Nat → Int32) × (Nat → Nat → Option Nat) × Int32))} (hk25 : ∀ (I : Nat → Nat → Int32) (R : Nat → Nat → Option Nat) (v1 : Int32) (v2 : Int32) (v3 : Int32) (v4 : Int32) (v5 : Int32) (v6 : Int32) (v7 : Int32), k25 I R v1 v2 v3 v4 v5 v6 v7 = some (Iz, Rz, rz) → ∀ {H : Heap} {locs : List Loc} {ls : Array Slot}, mc_P mc_k 152 w I R H → va_S (mc_A 152 w) s.heap H locs → lv_has ls 11 [(0, .ref (w.2.2.1 144)), (1, .int v1), (2, .int v2), (3, .int v3), (4, .int v4), (5, .int v5), (6, .int v6), (7, .int v7)] → W p l e ({ frames := 8, cells := 0, slots := 0, locals := 184 } : Room) s m args below meth c H locs 0 0 (MQ below (mc_Q (some (.int rz)) (fun t => mc_B mc_k 152 w Iz Rz t ∧ ¬ (rz ≠ 0 ∧ rz ≠ 1)) (mc_A 152 w)) args s 0 0 (mc_A 152 w)) (F0 m 25 ls [])) : ∀ (I : Nat → Nat → Int32) (R : Nat → Nat → Option Nat) (v1 : Int32) (v2 : Int32) (v3 : Int32) (v4 : Int32) (v5 : Int32) (v6 : Int32) (v7 : Int32), mi_L_shuts_B25 k25 F I R v1 v2 v3 v4 v5 v6 v7 = some (Iz, Rz, rz) → ∀ {H : Heap} {locs : List Loc} {ls : Array Slot}, mc_P mc_k 152 w I R H → va_S (mc_A 152 w) s.heap H locs → lv_has ls 11 [(0, .ref (w.2.2.1 144)), (1, .int v1), (2, .int v2), (3, .int v3), (4, .int v4), (5, .int v5), (6, .int v6), (7, .int v7)] → W p l e ({ frames := 8, cells := 0, slots := 0, locals := 184 } : Room) s m args below meth c H locs 0 0 (MQ below (mc_Q (some (.int rz)) (fun t => mc_B mc_k 152 w Iz Rz t ∧ ¬ (rz ≠ 0 ∧ rz ≠ 1)) (mc_A 152 w)) args s 0 0 (mc_A 152 w)) (F0 m 25 ls []) := by
  intro I R v1 v2 v3 v4 v5 v6 v7 h  H locs ls hP hS hl
  have hx := C.1
  have hb := C.2.1
  have hC := And.intro C.1 C.2.1
  unfold mi_L_shuts_B25 at h
  refine lv_iload hx hb dL_shuts_25 (lv_at hl 7 rfl) ?_
  refine lv_iload_n hx hb dL_shuts_27 rfl (lv_at hl 2 rfl) ?_
  refine lv_icmp_ge (tgt := 212) hx hb dL_shuts_28 (by decide) (fun c6 => ?_) (fun c6 => ?_)
  · replace h := mc_it h c6
    refine lv_aload_n hx hb dL_shuts_212 rfl (lv_at hl 0 rfl) ?_
    obtain ⟨r7, e8, h⟩ := mc_ob_e h
    refine mg_Sj (As := [.ref (w.2.2.1 144)]) (rest := []) (ct_L_print l (w := w) (I := I) (R := R) e8) C K hP hS hl.1 ml_L_52 wy_L_print wd_L_print rfl rfl rfl ⟨Nat.le_of_ble_eq_true rfl, Nat.le_of_ble_eq_true rfl⟩ (Nat.le_of_ble_eq_true rfl) ⟨Nat.zero_le _, Nat.zero_le _⟩ dL_shuts_213 (fun H locs hP hS => ?_)
    refine lv_lstore (i := 7) (lv' := [(7, .long r7), (0, .ref (w.2.2.1 144)), (1, .int v1), (2, .int v2), (3, .int v3), (4, .int v4), (5, .int v5), (6, .int v6)]) hx hb dL_shuts_216 hl (by decide) rfl (fun ls hl => ?_)
    refine lv_aload_n hx hb dL_shuts_218 rfl (lv_at hl 1 rfl) ?_
    refine lv_iload_n hx hb dL_shuts_219 rfl (lv_at hl 2 rfl) ?_
    obtain ⟨I9, R10, r11, e12, h⟩ := mc_ob3_e h
    refine mg_Vi (As := [.int v1]) (rest := []) (ct_X8_pass l (w := w) (I := I) (R := R) e12) C K hP hS hl.1 kf_144 (by decide) rfl rfl ml_L_56 wy_X8_pass wd_X8_pass rfl rfl rfl ⟨Nat.le_of_ble_eq_true rfl, Nat.le_of_ble_eq_true rfl⟩ (Nat.le_of_ble_eq_true rfl) ⟨Nat.zero_le _, Nat.zero_le _⟩ dL_shuts_220 (fun H locs hP hS => ?_)
    refine lv_istore (i := 9) (lv' := [(9, .int r11), (7, .long r7), (0, .ref (w.2.2.1 144)), (1, .int v1), (2, .int v2), (3, .int v3), (4, .int v4), (5, .int v5), (6, .int v6)]) hx hb dL_shuts_223 hl (by decide) rfl (fun ls hl => ?_)
    refine lv_iload hx hb dL_shuts_225 (lv_at hl 0 rfl) ?_
    refine lv_if_ge (tgt := 254) hx hb dL_shuts_227 (by decide) (fun c13 => ?_) (fun c13 => ?_)
    · replace h := mc_it h c13
      refine lv_iload hx hb dL_shuts_254 (lv_at hl 0 rfl) ?_
      refine lv_iload hx hb dL_shuts_256 (lv_at hl 6 rfl) ?_
      refine lv_icmp_ne (tgt := 334) hx hb dL_shuts_258 (by decide) (fun c14 => ?_) (fun c14 => ?_)
      · replace h := mc_ie h c14
        refine lv_iconst (v := 0) hx hb dL_shuts_334 (by decide) ?_
        exact bk_L_shuts_J335 C hr hlk K  I9 R10 r7 0 h  hP hS (lv_sub hl [2, 1] rfl)
      · replace h := mc_it h c14
        refine lv_iload hx hb dL_shuts_261 (lv_at hl 7 rfl) ?_
        refine lv_sipush (v := (-1005)) hx hb dL_shuts_263 (by decide) ?_
        refine lv_icmp_eq (tgt := 293) hx hb dL_shuts_266 (by decide) (fun c23 => ?_) (fun c23 => ?_)
        · replace h := mc_it h c23
          exact bk_L_shuts_J293 C hr hlk K  I9 R10 v1 v3 r7 h  hP hS (lv_sub hl [2, 3, 5, 1] rfl)
        · replace h := mc_ie h c23
          refine lv_aload_n hx hb dL_shuts_269 rfl (lv_at hl 2 rfl) ?_
          refine lv_iload hx hb dL_shuts_270 (lv_at hl 7 rfl) ?_
          refine lv_bipush (v := 6) hx hb dL_shuts_272 (by decide) ?_
          obtain ⟨r34, e35, h⟩ := mc_ob_e h
          refine mg_Vi (As := [.int v5, .int 6]) (rest := []) (ct_X8_bottle l (w := w) (I := I9) (R := R10) e35) C K hP hS hl.1 kf_144 (by decide) rfl rfl ml_L_16 wy_X8_bottle wd_X8_bottle rfl rfl rfl ⟨Nat.le_of_ble_eq_true rfl, Nat.le_of_ble_eq_true rfl⟩ (Nat.le_of_ble_eq_true rfl) ⟨Nat.zero_le _, Nat.zero_le _⟩ dL_shuts_274 (fun H locs hP hS => ?_)
          refine lv_iload hx hb dL_shuts_277 (lv_at hl 8 rfl) ?_
          refine lv_icmp_ne (tgt := 334) hx hb dL_shuts_279 (by decide) (fun c36 => ?_) (fun c36 => ?_)
          · replace h := mc_ie h c36
            refine lv_iconst (v := 0) hx hb dL_shuts_334 (by decide) ?_
            exact bk_L_shuts_J335 C hr hlk K  I9 R10 r7 0 h  hP hS (lv_sub hl [2, 1] rfl)
          · replace h := mc_it h c36
            refine lv_aload_n hx hb dL_shuts_282 rfl (lv_at hl 2 rfl) ?_
            refine lv_iload hx hb dL_shuts_283 (lv_at hl 7 rfl) ?_
            refine lv_bipush (v := 13) hx hb dL_shuts_285 (by decide) ?_
            obtain ⟨r37, e38, h⟩ := mc_ob_e h
            refine mg_Vi (As := [.int v5, .int 13]) (rest := []) (ct_X8_bottle l (w := w) (I := I9) (R := R10) e38) C K hP hS hl.1 kf_144 (by decide) rfl rfl ml_L_16 wy_X8_bottle wd_X8_bottle rfl rfl rfl ⟨Nat.le_of_ble_eq_true rfl, Nat.le_of_ble_eq_true rfl⟩ (Nat.le_of_ble_eq_true rfl) ⟨Nat.zero_le _, Nat.zero_le _⟩ dL_shuts_287 (fun H locs hP hS => ?_)
            refine lv_if_ne (tgt := 334) hx hb dL_shuts_290 (by decide) (fun c39 => ?_) (fun c39 => ?_)
            · replace h := mc_ie h c39
              refine lv_iconst (v := 0) hx hb dL_shuts_334 (by decide) ?_
              exact bk_L_shuts_J335 C hr hlk K  I9 R10 r7 0 h  hP hS (lv_sub hl [2, 1] rfl)
            · replace h := mc_it h c39
              exact bk_L_shuts_J293 C hr hlk K  I9 R10 v1 v3 r7 h  hP hS (lv_sub hl [2, 3, 5, 1] rfl)
    · replace h := mc_ie h c13
      refine lv_iload hx hb dL_shuts_230 (lv_at hl 0 rfl) ?_
      refine lv_sipush (v := (-1003)) hx hb dL_shuts_232 (by decide) ?_
      refine lv_icmp_ne (tgt := 252) hx hb dL_shuts_235 (by decide) (fun c40 => ?_) (fun c40 => ?_)
      · replace h := mc_ie h c40
        refine lv_iconst (v := 0) hx hb dL_shuts_252 (by decide) ?_
        cases h
        exact mt_zX hC hr hlk K hP hS (by decide) (by decide) dL_shuts_253
      · replace h := mc_it h c40
        refine lv_aload_n hx hb dL_shuts_238 rfl (lv_at hl 2 rfl) ?_
        obtain ⟨r41, e42, h⟩ := mc_ob_e h
        refine mg_Sj (As := [.ref (w.2.2.1 144)]) (rest := []) (ct_L_print l (w := w) (I := I9) (R := R10) e42) C K hP hS hl.1 ml_L_52 wy_L_print wd_L_print rfl rfl rfl ⟨Nat.le_of_ble_eq_true rfl, Nat.le_of_ble_eq_true rfl⟩ (Nat.le_of_ble_eq_true rfl) ⟨Nat.zero_le _, Nat.zero_le _⟩ dL_shuts_239 (fun H locs hP hS => ?_)
        refine lv_lload hx hb dL_shuts_242 (lv_at hl 1 rfl) ?_
        refine W.lcmp hx hb dL_shuts_244 ?_
        refine lv_if_ne (tgt := 252) hx hb dL_shuts_245 (by decide) (fun c43 => ?_) (fun c43 => ?_)
        · replace h := mc_ie h c43
          refine lv_iconst (v := 0) hx hb dL_shuts_252 (by decide) ?_
          cases h
          exact mt_zX hC hr hlk K hP hS (by decide) (by decide) dL_shuts_253
        · replace h := mc_it h c43
          refine lv_iconst (v := 1) hx hb dL_shuts_248 (by decide) ?_
          refine lv_goto (tgt := 253) hx hb dL_shuts_249 (by decide) ?_
          cases h
          exact mt_zX hC hr hlk K hP hS (by decide) (by decide) dL_shuts_253
  · replace h := mc_ie h c6
    refine lv_aload_n hx hb dL_shuts_31 rfl (lv_at hl 0 rfl) ?_
    refine lv_iload hx hb dL_shuts_32 (lv_at hl 7 rfl) ?_
    obtain ⟨I44, r45, e46, h⟩ := mc_ob2_e h
    refine mg_Vi (As := [.int v7]) (rest := []) (ct_X8_shutIn l (w := w) (I := I) (R := R) e46) C K hP hS hl.1 kf_144 (by decide) rfl rfl ml_L_46 wy_X8_shutIn wd_X8_shutIn rfl rfl rfl ⟨Nat.le_of_ble_eq_true rfl, Nat.le_of_ble_eq_true rfl⟩ (Nat.le_of_ble_eq_true rfl) ⟨Nat.zero_le _, Nat.zero_le _⟩ dL_shuts_34 (fun H locs hP hS => ?_)
    refine lv_istore (i := 8) (lv' := [(8, .int r45), (0, .ref (w.2.2.1 144)), (1, .int v1), (2, .int v2), (3, .int v3), (4, .int v4), (5, .int v5), (6, .int v6), (7, .int v7)]) hx hb dL_shuts_37 hl (by decide) rfl (fun ls hl => ?_)
    refine lv_aload_n hx hb dL_shuts_39 rfl (lv_at hl 1 rfl) ?_
    refine lv_iload hx hb dL_shuts_40 (lv_at hl 8 rfl) ?_
    obtain ⟨I47, r48, e49, h⟩ := mc_ob2_e h
    refine mg_Vi (As := [.int v7]) (rest := []) (ct_X8_reason l (w := w) (I := I44) (R := R) e49) C K hP hS hl.1 kf_144 (by decide) rfl rfl ml_L_49 wy_X8_reason wd_X8_reason rfl rfl rfl ⟨Nat.le_of_ble_eq_true rfl, Nat.le_of_ble_eq_true rfl⟩ (Nat.le_of_ble_eq_true rfl) ⟨Nat.zero_le _, Nat.zero_le _⟩ dL_shuts_42 (fun H locs hP hS => ?_)
    refine lv_istore (i := 9) (lv' := [(9, .int r48), (8, .int r45), (0, .ref (w.2.2.1 144)), (1, .int v1), (2, .int v2), (3, .int v3), (4, .int v4), (5, .int v5), (6, .int v6), (7, .int v7)]) hx hb dL_shuts_45 hl (by decide) rfl (fun ls hl => ?_)
    refine lv_iload hx hb dL_shuts_47 (lv_at hl 0 rfl) ?_
    refine lv_if_ne (tgt := 56) hx hb dL_shuts_49 (by decide) (fun c50 => ?_) (fun c50 => ?_)
    · replace h := mc_ie h c50
      refine lv_iconst (v := 0) hx hb dL_shuts_56 (by decide) ?_
      exact bk_L_shuts_J57 C hr hlk K hk25 I47 R v1 v2 v3 v4 v5 v6 v7 r45 r48 0 h  hP hS (lv_sub hl [2, 3, 4, 5, 6, 7, 8, 9, 1, 0] rfl)
    · replace h := mc_it h c50
      refine lv_iconst (v := 1) hx hb dL_shuts_52 (by decide) ?_
      refine lv_goto (tgt := 57) hx hb dL_shuts_53 (by decide) ?_
      exact bk_L_shuts_J57 C hr hlk K hk25 I47 R v1 v2 v3 v4 v5 v6 v7 r45 r48 1 h  hP hS (lv_sub hl [2, 3, 4, 5, 6, 7, 8, 9, 1, 0] rfl)
theorem bk_L_shuts_L25 {p : Program} {l : Launch} {e : Env} {s : State} {m : MethodId} {args : Array Value} {below : List Frame} {meth : Method} {c : Code} (C : CallFix p m c cL_shuts 11 s args mc_big RL) (hr : meth.sig.returnType = (some .boolean)) (hlk : meth.locks = false) {w : mc_w} (K : mc_K mc_k 152 w s) {F : Nat} {Iz : Nat → Nat → Int32} {Rz : Nat → Nat → Option Nat} {rz : Int32} : ∀ n : Nat, ∀ (I : Nat → Nat → Int32) (R : Nat → Nat → Option Nat) (v1 : Int32) (v2 : Int32) (v3 : Int32) (v4 : Int32) (v5 : Int32) (v6 : Int32) (v7 : Int32), mi_L_shuts_L25 F n I R v1 v2 v3 v4 v5 v6 v7 = some (Iz, Rz, rz) → ∀ {H : Heap} {locs : List Loc} {ls : Array Slot}, mc_P mc_k 152 w I R H → va_S (mc_A 152 w) s.heap H locs → lv_has ls 11 [(0, .ref (w.2.2.1 144)), (1, .int v1), (2, .int v2), (3, .int v3), (4, .int v4), (5, .int v5), (6, .int v6), (7, .int v7)] → W p l e ({ frames := 8, cells := 0, slots := 0, locals := 184 } : Room) s m args below meth c H locs 0 0 (MQ below (mc_Q (some (.int rz)) (fun t => mc_B mc_k 152 w Iz Rz t ∧ ¬ (rz ≠ 0 ∧ rz ≠ 1)) (mc_A 152 w)) args s 0 0 (mc_A 152 w)) (F0 m 25 ls []) := by
  intro n
  induction n with
  | zero =>
    intro I R v1 v2 v3 v4 v5 v6 v7 h
    cases h
  | succ n ih =>
    intro I R v1 v2 v3 v4 v5 v6 v7 h
    exact bk_L_shuts_B25 C hr hlk K  ih I R v1 v2 v3 v4 v5 v6 v7 h
set_option maxHeartbeats 4000000 in
set_option maxRecDepth 100000 in
theorem ct_L_shuts (l : Launch) {w : mc_w} {I : Nat → Nat → Int32} {R : Nat → Nat → Option Nat} {F : Nat} {v1 : Int32} {Iz : Nat → Nat → Int32} {Rz : Nat → Nat → Option Nat} {rz : Int32} (h : mi_L_shuts F I R v1 = some (Iz, Rz, rz)) : Met l yL_shuts (Cond.code yL_shuts cL_shuts 11 (some .boolean) :: mc_big) ({ frames := 8, cells := 0, slots := 0, locals := 184 } : Room) (va_Pc [.ref (w.2.2.1 144), .int v1] (mc_B mc_k 152 w I R)) (mc_Q (some (.int rz)) (fun t => mc_B mc_k 152 w Iz Rz t ∧ ¬ (rz ≠ 0 ∧ rz ≠ 1)) (mc_A 152 w)) 0 0 (mc_A 152 w) := by
  refine Met.ofW (cc := cL_shuts) (maxL := 11) (ret := (some .boolean)) (by decide) rfl ?_
  intro p e s m args below meth c s₁ B hml hv
  obtain ⟨rfl, hP, K⟩ := hv
  have hown : s.vm.findClass RL = some m.cls := findClass_of_methodNamed B.named
  have C : CallFix p m c cL_shuts 11 s _ mc_big RL := ⟨B.exec, B.bytes, hml, hown, fun w hw => atoms_spec B.pre w (List.mem_cons_of_mem _ hw)⟩
  have hx := C.1
  have hb := C.2.1
  have hC := And.intro C.1 C.2.1
  have hr := B.returns
  have hlk := B.notSynchronized
  have hS : va_S (mc_A 152 w) s.heap s.heap [] := va_S.rf
  have hl := lv_entry ([.ref (w.2.2.1 144), .int v1]) (n := 11) (Nat.le_of_ble_eq_true rfl)
  rw [lg_entry_eq]
  generalize (lg_sl ([.ref (w.2.2.1 144), .int v1]) ++ List.replicate (11 - (lg_sl ([.ref (w.2.2.1 144), .int v1])).length) Slot.unset).toArray = ls at hl ⊢
  have hl : lv_has ls 11 [(0, .ref (w.2.2.1 144)), (1, .int v1)] := hl
  unfold mi_L_shuts at h
  refine lv_aload_n hx hb dL_shuts_0 rfl (lv_at hl 0 rfl) ?_
  refine lv_iconst (v := 5) hx hb dL_shuts_1 (by decide) ?_
  obtain ⟨r1, e2, h⟩ := mc_ob_e h
  refine mg_Vi (As := [.int 5]) (rest := []) (ct_X8_count l (w := w) (I := I) (R := R) e2) C K hP hS hl.1 kf_144 (by decide) rfl rfl ml_L_10 wy_X8_count wd_X8_count rfl rfl rfl ⟨Nat.le_of_ble_eq_true rfl, Nat.le_of_ble_eq_true rfl⟩ (Nat.le_of_ble_eq_true rfl) ⟨Nat.zero_le _, Nat.zero_le _⟩ dL_shuts_2 (fun H locs hP hS => ?_)
  refine lv_istore_n (i := 2) (lv' := [(2, .int r1), (0, .ref (w.2.2.1 144)), (1, .int v1)]) hx hb dL_shuts_5 rfl hl (by decide) rfl (fun ls hl => ?_)
  refine lv_aload_n hx hb dL_shuts_6 rfl (lv_at hl 1 rfl) ?_
  obtain ⟨I3, r4, e5, h⟩ := mc_ob2_e h
  refine mg_Vi (As := []) (rest := []) (ct_X8_quietIn l (w := w) (I := I) (R := R) e5) C K hP hS hl.1 kf_144 (by decide) rfl rfl ml_L_43 wy_X8_quietIn wd_X8_quietIn rfl rfl rfl ⟨Nat.le_of_ble_eq_true rfl, Nat.le_of_ble_eq_true rfl⟩ (Nat.le_of_ble_eq_true rfl) ⟨Nat.zero_le _, Nat.zero_le _⟩ dL_shuts_7 (fun H locs hP hS => ?_)
  refine lv_istore_n (i := 3) (lv' := [(3, .int r4), (2, .int r1), (0, .ref (w.2.2.1 144)), (1, .int v1)]) hx hb dL_shuts_10 rfl hl (by decide) rfl (fun ls hl => ?_)
  refine lv_iconst (v := 0) hx hb dL_shuts_11 (by decide) ?_
  refine lv_istore (i := 4) (lv' := [(4, .int 0), (3, .int r4), (2, .int r1), (0, .ref (w.2.2.1 144)), (1, .int v1)]) hx hb dL_shuts_12 hl (by decide) rfl (fun ls hl => ?_)
  refine lv_sipush (v := (-1005)) hx hb dL_shuts_14 (by decide) ?_
  refine lv_istore (i := 5) (lv' := [(5, .int (-1005)), (4, .int 0), (3, .int r4), (2, .int r1), (0, .ref (w.2.2.1 144)), (1, .int v1)]) hx hb dL_shuts_17 hl (by decide) rfl (fun ls hl => ?_)
  refine lv_iconst (v := 0) hx hb dL_shuts_19 (by decide) ?_
  refine lv_istore (i := 6) (lv' := [(6, .int 0), (5, .int (-1005)), (4, .int 0), (3, .int r4), (2, .int r1), (0, .ref (w.2.2.1 144)), (1, .int v1)]) hx hb dL_shuts_20 hl (by decide) rfl (fun ls hl => ?_)
  refine lv_iconst (v := 0) hx hb dL_shuts_22 (by decide) ?_
  refine lv_istore (i := 7) (lv' := [(7, .int 0), (6, .int 0), (5, .int (-1005)), (4, .int 0), (3, .int r4), (2, .int r1), (0, .ref (w.2.2.1 144)), (1, .int v1)]) hx hb dL_shuts_23 hl (by decide) rfl (fun ls hl => ?_)
  exact bk_L_shuts_L25 C hr hlk K  F I3 R v1 r1 r4 0 (-1005) 0 0 h  hP hS (lv_sub hl [6, 7, 5, 4, 3, 2, 1, 0] rfl)
set_option maxHeartbeats 4000000 in
set_option maxRecDepth 100000 in
theorem bk_L_jerks_J290 {p : Program} {l : Launch} {e : Env} {s : State} {m : MethodId} {args : Array Value} {below : List Frame} {meth : Method} {c : Code} (C : CallFix p m c cL_jerks 12 s args mc_big RL) (hr : meth.sig.returnType = (some .boolean)) (hlk : meth.locks = false) {w : mc_w} (K : mc_K mc_k 152 w s) {F : Nat} {Iz : Nat → Nat → Int32} {Rz : Nat → Nat → Option Nat} {rz : Int32} : ∀ (I : Nat → Nat → Int32) (R : Nat → Nat → Option Nat) (v2 : Int64) (s0 : Int32), mi_L_jerks_J290 F I R v2 s0 = some (Iz, Rz, rz) → ∀ {H : Heap} {locs : List Loc} {ls : Array Slot}, mc_P mc_k 152 w I R H → va_S (mc_A 152 w) s.heap H locs → lv_has ls 12 [(0, .ref (w.2.2.1 144)), (2, .long v2)] → W p l e ({ frames := 8, cells := 0, slots := 0, locals := 184 } : Room) s m args below meth c H locs 0 0 (MQ below (mc_Q (some (.int rz)) (fun t => mc_B mc_k 152 w Iz Rz t ∧ ¬ (rz ≠ 0 ∧ rz ≠ 1)) (mc_A 152 w)) args s 0 0 (mc_A 152 w)) (F0 m 290 ls [.int s0]) := by
  intro I R v2 s0 h  H locs ls hP hS hl
  have hx := C.1
  have hb := C.2.1
  have hC := And.intro C.1 C.2.1
  unfold mi_L_jerks_J290 at h
  refine lv_istore (i := 11) (lv' := [(11, .int s0), (0, .ref (w.2.2.1 144)), (2, .long v2)]) hx hb dL_jerks_290 hl (by decide) rfl (fun ls hl => ?_)
  refine lv_iload hx hb dL_jerks_292 (lv_at hl 0 rfl) ?_
  refine lv_if_eq (tgt := 324) hx hb dL_jerks_294 (by decide) (fun c25 => ?_) (fun c25 => ?_)
  · replace h := mc_it h c25
    refine lv_iconst (v := 0) hx hb dL_jerks_324 (by decide) ?_
    cases h
    exact mt_zX hC hr hlk K hP hS (by decide) (by decide) dL_jerks_325
  · replace h := mc_ie h c25
    refine lv_aload_n hx hb dL_jerks_297 rfl (lv_at hl 1 rfl) ?_
    obtain ⟨r26, e27, h⟩ := mc_ob_e h
    refine mg_Sz (As := [.ref (w.2.2.1 144)]) (rest := []) (ct_L_hangs l (w := w) (I := I) (R := R) e27) C K hP hS hl.1 ml_L_59 wy_L_hangs wd_L_hangs rfl rfl rfl ⟨Nat.le_of_ble_eq_true rfl, Nat.le_of_ble_eq_true rfl⟩ (Nat.le_of_ble_eq_true rfl) ⟨Nat.zero_le _, Nat.zero_le _⟩ dL_jerks_298 (fun H locs hP z28 hS => ?_)
    refine lv_if_eq (tgt := 324) hx hb dL_jerks_301 (by decide) (fun c29 => ?_) (fun c29 => ?_)
    · replace h := mc_it h c29
      refine lv_iconst (v := 0) hx hb dL_jerks_324 (by decide) ?_
      cases h
      exact mt_zX hC hr hlk K hP hS (by decide) (by decide) dL_jerks_325
    · replace h := mc_ie h c29
      refine lv_aload_n hx hb dL_jerks_304 rfl (lv_at hl 1 rfl) ?_
      obtain ⟨I30, r31, e32, h⟩ := mc_ob2_e h
      refine mg_Vi (As := []) (rest := []) (ct_X8_undo l (w := w) (I := I) (R := R) e32) C K hP hS hl.1 kf_144 (by decide) rfl rfl ml_L_62 wy_X8_undo wd_X8_undo rfl rfl rfl ⟨Nat.le_of_ble_eq_true rfl, Nat.le_of_ble_eq_true rfl⟩ (Nat.le_of_ble_eq_true rfl) ⟨Nat.zero_le _, Nat.zero_le _⟩ dL_jerks_305 (fun H locs hP hS => ?_)
      refine lv_if_lt (tgt := 324) hx hb dL_jerks_308 (by decide) (fun c33 => ?_) (fun c33 => ?_)
      · replace h := mc_it h c33
        refine lv_iconst (v := 0) hx hb dL_jerks_324 (by decide) ?_
        cases h
        exact mt_zX hC hr hlk K hP hS (by decide) (by decide) dL_jerks_325
      · replace h := mc_ie h c33
        refine lv_aload_n hx hb dL_jerks_311 rfl (lv_at hl 1 rfl) ?_
        obtain ⟨r34, e35, h⟩ := mc_ob_e h
        refine mg_Sj (As := [.ref (w.2.2.1 144)]) (rest := []) (ct_L_print l (w := w) (I := I30) (R := R) e35) C K hP hS hl.1 ml_L_52 wy_L_print wd_L_print rfl rfl rfl ⟨Nat.le_of_ble_eq_true rfl, Nat.le_of_ble_eq_true rfl⟩ (Nat.le_of_ble_eq_true rfl) ⟨Nat.zero_le _, Nat.zero_le _⟩ dL_jerks_312 (fun H locs hP hS => ?_)
        refine lv_lload_n hx hb dL_jerks_315 rfl (lv_at hl 2 rfl) ?_
        refine W.lcmp hx hb dL_jerks_316 ?_
        refine lv_if_ne (tgt := 324) hx hb dL_jerks_317 (by decide) (fun c36 => ?_) (fun c36 => ?_)
        · replace h := mc_ie h c36
          refine lv_iconst (v := 0) hx hb dL_jerks_324 (by decide) ?_
          cases h
          exact mt_zX hC hr hlk K hP hS (by decide) (by decide) dL_jerks_325
        · replace h := mc_it h c36
          refine lv_iconst (v := 1) hx hb dL_jerks_320 (by decide) ?_
          refine lv_goto (tgt := 325) hx hb dL_jerks_321 (by decide) ?_
          cases h
          exact mt_zX hC hr hlk K hP hS (by decide) (by decide) dL_jerks_325
set_option maxHeartbeats 4000000 in
set_option maxRecDepth 100000 in
theorem bk_L_jerks_J227 {p : Program} {l : Launch} {e : Env} {s : State} {m : MethodId} {args : Array Value} {below : List Frame} {meth : Method} {c : Code} (C : CallFix p m c cL_jerks 12 s args mc_big RL) (hr : meth.sig.returnType = (some .boolean)) (hlk : meth.locks = false) {w : mc_w} (K : mc_K mc_k 152 w s) {F : Nat} {Iz : Nat → Nat → Int32} {Rz : Nat → Nat → Option Nat} {rz : Int32} : ∀ (I : Nat → Nat → Int32) (R : Nat → Nat → Option Nat) (v2 : Int64) (v4 : Int32) (v5 : Int32) (v6 : Int32) (s0 : Int32) (s1 : Int32) (s2 : Int32), mi_L_jerks_J227 F I R v2 v4 v5 v6 s0 s1 s2 = some (Iz, Rz, rz) → ∀ {H : Heap} {locs : List Loc} {ls : Array Slot}, mc_P mc_k 152 w I R H → va_S (mc_A 152 w) s.heap H locs → lv_has ls 12 [(0, .ref (w.2.2.1 144)), (2, .long v2), (4, .int v4), (5, .int v5), (6, .int v6)] → W p l e ({ frames := 8, cells := 0, slots := 0, locals := 184 } : Room) s m args below meth c H locs 0 0 (MQ below (mc_Q (some (.int rz)) (fun t => mc_B mc_k 152 w Iz Rz t ∧ ¬ (rz ≠ 0 ∧ rz ≠ 1)) (mc_A 152 w)) args s 0 0 (mc_A 152 w)) (F0 m 227 ls [.int s0, .int s1, .int s2]) := by
  intro I R v2 v4 v5 v6 s0 s1 s2 h  H locs ls hP hS hl
  have hx := C.1
  have hb := C.2.1
  have hC := And.intro C.1 C.2.1
  unfold mi_L_jerks_J227 at h
  refine lv_iadd hx hb dL_jerks_227 ?_
  refine lv_icmp_ne (tgt := 289) hx hb dL_jerks_228 (by decide) (fun c46 => ?_) (fun c46 => ?_)
  · replace h := mc_ie h c46
    refine lv_iconst (v := 0) hx hb dL_jerks_289 (by decide) ?_
    exact bk_L_jerks_J290 C hr hlk K  I R v2 0 h  hP hS (lv_sub hl [0, 1] rfl)
  · replace h := mc_it h c46
    refine lv_iload hx hb dL_jerks_231 (lv_at hl 4 rfl) ?_
    refine lv_if_eq (tgt := 285) hx hb dL_jerks_233 (by decide) (fun c47 => ?_) (fun c47 => ?_)
    · replace h := mc_it h c47
      refine lv_iconst (v := 1) hx hb dL_jerks_285 (by decide) ?_
      refine lv_goto (tgt := 290) hx hb dL_jerks_286 (by decide) ?_
      exact bk_L_jerks_J290 C hr hlk K  I R v2 1 h  hP hS (lv_sub hl [0, 1] rfl)
    · replace h := mc_ie h c47
      refine lv_aload_n hx hb dL_jerks_236 rfl (lv_at hl 0 rfl) ?_
      refine lv_iload hx hb dL_jerks_237 (lv_at hl 2 rfl) ?_
      refine lv_bipush (v := 13) hx hb dL_jerks_239 (by decide) ?_
      obtain ⟨r48, e49, h⟩ := mc_ob_e h
      refine mg_Vi (As := [.int v4, .int 13]) (rest := []) (ct_X8_bottle l (w := w) (I := I) (R := R) e49) C K hP hS hl.1 kf_144 (by decide) rfl rfl ml_L_16 wy_X8_bottle wd_X8_bottle rfl rfl rfl ⟨Nat.le_of_ble_eq_true rfl, Nat.le_of_ble_eq_true rfl⟩ (Nat.le_of_ble_eq_true rfl) ⟨Nat.zero_le _, Nat.zero_le _⟩ dL_jerks_241 (fun H locs hP hS => ?_)
      refine lv_iconst (v := 1) hx hb dL_jerks_244 (by decide) ?_
      refine lv_icmp_ne (tgt := 289) hx hb dL_jerks_245 (by decide) (fun c50 => ?_) (fun c50 => ?_)
      · replace h := mc_ie h c50
        refine lv_iconst (v := 0) hx hb dL_jerks_289 (by decide) ?_
        exact bk_L_jerks_J290 C hr hlk K  I R v2 0 h  hP hS (lv_sub hl [0, 1] rfl)
      · replace h := mc_it h c50
        refine lv_aload_n hx hb dL_jerks_248 rfl (lv_at hl 0 rfl) ?_
        refine lv_iload hx hb dL_jerks_249 (lv_at hl 2 rfl) ?_
        refine lv_bipush (v := 11) hx hb dL_jerks_251 (by decide) ?_
        obtain ⟨r51, e52, h⟩ := mc_ob_e h
        refine mg_Vi (As := [.int v4, .int 11]) (rest := []) (ct_X8_bottle l (w := w) (I := I) (R := R) e52) C K hP hS hl.1 kf_144 (by decide) rfl rfl ml_L_16 wy_X8_bottle wd_X8_bottle rfl rfl rfl ⟨Nat.le_of_ble_eq_true rfl, Nat.le_of_ble_eq_true rfl⟩ (Nat.le_of_ble_eq_true rfl) ⟨Nat.zero_le _, Nat.zero_le _⟩ dL_jerks_253 (fun H locs hP hS => ?_)
        refine lv_iload hx hb dL_jerks_256 (lv_at hl 3 rfl) ?_
        refine lv_aload_n hx hb dL_jerks_258 rfl (lv_at hl 0 rfl) ?_
        refine lv_iload hx hb dL_jerks_259 (lv_at hl 2 rfl) ?_
        refine lv_iconst (v := 0) hx hb dL_jerks_261 (by decide) ?_
        obtain ⟨r53, e54, h⟩ := mc_ob_e h
        refine mg_Vi (As := [.int v4, .int 0]) (rest := [.int v5, .int r51]) (ct_X8_bottle l (w := w) (I := I) (R := R) e54) C K hP hS hl.1 kf_144 (by decide) rfl rfl ml_L_16 wy_X8_bottle wd_X8_bottle rfl rfl rfl ⟨Nat.le_of_ble_eq_true rfl, Nat.le_of_ble_eq_true rfl⟩ (Nat.le_of_ble_eq_true rfl) ⟨Nat.zero_le _, Nat.zero_le _⟩ dL_jerks_262 (fun H locs hP hS => ?_)
        refine lv_isub hx hb dL_jerks_265 ?_
        refine lv_icmp_ne (tgt := 289) hx hb dL_jerks_266 (by decide) (fun c55 => ?_) (fun c55 => ?_)
        · replace h := mc_ie h c55
          refine lv_iconst (v := 0) hx hb dL_jerks_289 (by decide) ?_
          exact bk_L_jerks_J290 C hr hlk K  I R v2 0 h  hP hS (lv_sub hl [0, 1] rfl)
        · replace h := mc_it h c55
          refine lv_aload_n hx hb dL_jerks_269 rfl (lv_at hl 0 rfl) ?_
          refine lv_iload hx hb dL_jerks_270 (lv_at hl 2 rfl) ?_
          refine lv_bipush (v := 6) hx hb dL_jerks_272 (by decide) ?_
          obtain ⟨r56, e57, h⟩ := mc_ob_e h
          refine mg_Vi (As := [.int v4, .int 6]) (rest := []) (ct_X8_bottle l (w := w) (I := I) (R := R) e57) C K hP hS hl.1 kf_144 (by decide) rfl rfl ml_L_16 wy_X8_bottle wd_X8_bottle rfl rfl rfl ⟨Nat.le_of_ble_eq_true rfl, Nat.le_of_ble_eq_true rfl⟩ (Nat.le_of_ble_eq_true rfl) ⟨Nat.zero_le _, Nat.zero_le _⟩ dL_jerks_274 (fun H locs hP hS => ?_)
          refine lv_aload_n hx hb dL_jerks_277 rfl (lv_at hl 0 rfl) ?_
          refine lv_iconst (v := 0) hx hb dL_jerks_278 (by decide) ?_
          obtain ⟨r58, e59, h⟩ := mc_ob_e h
          refine mg_Vi (As := [.int 0]) (rest := [.int r56]) (ct_X8_count l (w := w) (I := I) (R := R) e59) C K hP hS hl.1 kf_144 (by decide) rfl rfl ml_L_10 wy_X8_count wd_X8_count rfl rfl rfl ⟨Nat.le_of_ble_eq_true rfl, Nat.le_of_ble_eq_true rfl⟩ (Nat.le_of_ble_eq_true rfl) ⟨Nat.zero_le _, Nat.zero_le _⟩ dL_jerks_279 (fun H locs hP hS => ?_)
          refine lv_icmp_ne (tgt := 289) hx hb dL_jerks_282 (by decide) (fun c60 => ?_) (fun c60 => ?_)
          · replace h := mc_ie h c60
            refine lv_iconst (v := 0) hx hb dL_jerks_289 (by decide) ?_
            exact bk_L_jerks_J290 C hr hlk K  I R v2 0 h  hP hS (lv_sub hl [0, 1] rfl)
          · replace h := mc_it h c60
            refine lv_iconst (v := 1) hx hb dL_jerks_285 (by decide) ?_
            refine lv_goto (tgt := 290) hx hb dL_jerks_286 (by decide) ?_
            exact bk_L_jerks_J290 C hr hlk K  I R v2 1 h  hP hS (lv_sub hl [0, 1] rfl)
set_option maxHeartbeats 4000000 in
set_option maxRecDepth 100000 in
theorem bk_L_jerks_J104 {p : Program} {l : Launch} {e : Env} {s : State} {m : MethodId} {args : Array Value} {below : List Frame} {meth : Method} {c : Code} (C : CallFix p m c cL_jerks 12 s args mc_big RL) (hr : meth.sig.returnType = (some .boolean)) (hlk : meth.locks = false) {w : mc_w} (K : mc_K mc_k 152 w s) {F : Nat} {Iz : Nat → Nat → Int32} {Rz : Nat → Nat → Option Nat} {rz : Int32} : ∀ (I : Nat → Nat → Int32) (R : Nat → Nat → Option Nat) (v1 : Int32) (v2 : Int64) (v4 : Int32) (v5 : Int32) (s0 : Int32), mi_L_jerks_J104 F I R v1 v2 v4 v5 s0 = some (Iz, Rz, rz) → ∀ {H : Heap} {locs : List Loc} {ls : Array Slot}, mc_P mc_k 152 w I R H → va_S (mc_A 152 w) s.heap H locs → lv_has ls 12 [(0, .ref (w.2.2.1 144)), (1, .int v1), (2, .long v2), (4, .int v4), (5, .int v5)] → W p l e ({ frames := 8, cells := 0, slots := 0, locals := 184 } : Room) s m args below meth c H locs 0 0 (MQ below (mc_Q (some (.int rz)) (fun t => mc_B mc_k 152 w Iz Rz t ∧ ¬ (rz ≠ 0 ∧ rz ≠ 1)) (mc_A 152 w)) args s 0 0 (mc_A 152 w)) (F0 m 104 ls [.int s0]) := by
  intro I R v1 v2 v4 v5 s0 h  H locs ls hP hS hl
  have hx := C.1
  have hb := C.2.1
  have hC := And.intro C.1 C.2.1
  unfold mi_L_jerks_J104 at h
  refine lv_istore (i := 6) (lv' := [(6, .int s0), (0, .ref (w.2.2.1 144)), (1, .int v1), (2, .long v2), (4, .int v4), (5, .int v5)]) hx hb dL_jerks_104 hl (by decide) rfl (fun ls hl => ?_)
  refine lv_aload_n hx hb dL_jerks_106 rfl (lv_at hl 1 rfl) ?_
  refine lv_bipush (v := 7) hx hb dL_jerks_107 (by decide) ?_
  obtain ⟨r11, e12, h⟩ := mc_ob_e h
  refine mg_Vi (As := [.int 7]) (rest := []) (ct_X8_count l (w := w) (I := I) (R := R) e12) C K hP hS hl.1 kf_144 (by decide) rfl rfl ml_L_10 wy_X8_count wd_X8_count rfl rfl rfl ⟨Nat.le_of_ble_eq_true rfl, Nat.le_of_ble_eq_true rfl⟩ (Nat.le_of_ble_eq_true rfl) ⟨Nat.zero_le _, Nat.zero_le _⟩ dL_jerks_109 (fun H locs hP hS => ?_)
  refine lv_istore (i := 7) (lv' := [(7, .int r11), (6, .int s0), (0, .ref (w.2.2.1 144)), (1, .int v1), (2, .long v2), (4, .int v4), (5, .int v5)]) hx hb dL_jerks_112 hl (by decide) rfl (fun ls hl => ?_)
  refine lv_aload_n hx hb dL_jerks_114 rfl (lv_at hl 2 rfl) ?_
  refine lv_bipush (v := 11) hx hb dL_jerks_115 (by decide) ?_
  obtain ⟨r13, e14, h⟩ := mc_ob_e h
  refine mg_Vi (As := [.int 11]) (rest := []) (ct_X8_count l (w := w) (I := I) (R := R) e14) C K hP hS hl.1 kf_144 (by decide) rfl rfl ml_L_10 wy_X8_count wd_X8_count rfl rfl rfl ⟨Nat.le_of_ble_eq_true rfl, Nat.le_of_ble_eq_true rfl⟩ (Nat.le_of_ble_eq_true rfl) ⟨Nat.zero_le _, Nat.zero_le _⟩ dL_jerks_117 (fun H locs hP hS => ?_)
  refine lv_istore (i := 8) (lv' := [(8, .int r13), (7, .int r11), (6, .int s0), (0, .ref (w.2.2.1 144)), (1, .int v1), (2, .long v2), (4, .int v4), (5, .int v5)]) hx hb dL_jerks_120 hl (by decide) rfl (fun ls hl => ?_)
  refine lv_aload_n hx hb dL_jerks_122 rfl (lv_at hl 3 rfl) ?_
  refine lv_bipush (v := 9) hx hb dL_jerks_123 (by decide) ?_
  obtain ⟨r15, e16, h⟩ := mc_ob_e h
  refine mg_Vi (As := [.int 9]) (rest := []) (ct_X8_count l (w := w) (I := I) (R := R) e16) C K hP hS hl.1 kf_144 (by decide) rfl rfl ml_L_10 wy_X8_count wd_X8_count rfl rfl rfl ⟨Nat.le_of_ble_eq_true rfl, Nat.le_of_ble_eq_true rfl⟩ (Nat.le_of_ble_eq_true rfl) ⟨Nat.zero_le _, Nat.zero_le _⟩ dL_jerks_125 (fun H locs hP hS => ?_)
  refine lv_istore (i := 9) (lv' := [(9, .int r15), (8, .int r13), (7, .int r11), (6, .int s0), (0, .ref (w.2.2.1 144)), (1, .int v1), (2, .long v2), (4, .int v4), (5, .int v5)]) hx hb dL_jerks_128 hl (by decide) rfl (fun ls hl => ?_)
  refine lv_aload_n hx hb dL_jerks_130 rfl (lv_at hl 4 rfl) ?_
  refine lv_iload_n hx hb dL_jerks_131 rfl (lv_at hl 5 rfl) ?_
  obtain ⟨I17, R18, r19, e20, h⟩ := mc_ob3_e h
  refine mg_Vi (As := [.int v1]) (rest := []) (ct_X8_pay l (w := w) (I := I) (R := R) e20) C K hP hS hl.1 kf_144 (by decide) rfl rfl ml_L_65 wy_X8_pay wd_X8_pay rfl rfl rfl ⟨Nat.le_of_ble_eq_true rfl, Nat.le_of_ble_eq_true rfl⟩ (Nat.le_of_ble_eq_true rfl) ⟨Nat.zero_le _, Nat.zero_le _⟩ dL_jerks_132 (fun H locs hP hS => ?_)
  refine lv_istore (i := 10) (lv' := [(10, .int r19), (9, .int r15), (8, .int r13), (7, .int r11), (6, .int s0), (0, .ref (w.2.2.1 144)), (1, .int v1), (2, .long v2), (4, .int v4), (5, .int v5)]) hx hb dL_jerks_135 hl (by decide) rfl (fun ls hl => ?_)
  refine lv_iload hx hb dL_jerks_137 (lv_at hl 0 rfl) ?_
  refine lv_if_ge (tgt := 174) hx hb dL_jerks_139 (by decide) (fun c21 => ?_) (fun c21 => ?_)
  · replace h := mc_it h c21
    refine lv_aload_n hx hb dL_jerks_174 rfl (lv_at hl 5 rfl) ?_
    refine lv_iconst (v := 1) hx hb dL_jerks_175 (by decide) ?_
    obtain ⟨r22, e23, h⟩ := mc_ob_e h
    refine mg_Vi (As := [.int 1]) (rest := []) (ct_X8_count l (w := w) (I := I17) (R := R18) e23) C K hP hS hl.1 kf_144 (by decide) rfl rfl ml_L_10 wy_X8_count wd_X8_count rfl rfl rfl ⟨Nat.le_of_ble_eq_true rfl, Nat.le_of_ble_eq_true rfl⟩ (Nat.le_of_ble_eq_true rfl) ⟨Nat.zero_le _, Nat.zero_le _⟩ dL_jerks_176 (fun H locs hP hS => ?_)
    refine lv_iload hx hb dL_jerks_179 (lv_at hl 9 rfl) ?_
    refine lv_icmp_ne (tgt := 289) hx hb dL_jerks_181 (by decide) (fun c24 => ?_) (fun c24 => ?_)
    · replace h := mc_ie h c24
      refine lv_iconst (v := 0) hx hb dL_jerks_289 (by decide) ?_
      exact bk_L_jerks_J290 C hr hlk K  I17 R18 v2 0 h  hP hS (lv_sub hl [5, 7] rfl)
    · replace h := mc_it h c24
      refine lv_aload_n hx hb dL_jerks_184 rfl (lv_at hl 5 rfl) ?_
      refine lv_bipush (v := 9) hx hb dL_jerks_185 (by decide) ?_
      obtain ⟨r37, e38, h⟩ := mc_ob_e h
      refine mg_Vi (As := [.int 9]) (rest := []) (ct_X8_count l (w := w) (I := I17) (R := R18) e38) C K hP hS hl.1 kf_144 (by decide) rfl rfl ml_L_10 wy_X8_count wd_X8_count rfl rfl rfl ⟨Nat.le_of_ble_eq_true rfl, Nat.le_of_ble_eq_true rfl⟩ (Nat.le_of_ble_eq_true rfl) ⟨Nat.zero_le _, Nat.zero_le _⟩ dL_jerks_187 (fun H locs hP hS => ?_)
      refine lv_iload hx hb dL_jerks_190 (lv_at hl 1 rfl) ?_
      refine lv_iload hx hb dL_jerks_192 (lv_at hl 0 rfl) ?_
      refine lv_isub hx hb dL_jerks_194 ?_
      refine lv_icmp_ne (tgt := 289) hx hb dL_jerks_195 (by decide) (fun c39 => ?_) (fun c39 => ?_)
      · replace h := mc_ie h c39
        refine lv_iconst (v := 0) hx hb dL_jerks_289 (by decide) ?_
        exact bk_L_jerks_J290 C hr hlk K  I17 R18 v2 0 h  hP hS (lv_sub hl [5, 7] rfl)
      · replace h := mc_it h c39
        refine lv_aload_n hx hb dL_jerks_198 rfl (lv_at hl 5 rfl) ?_
        refine lv_bipush (v := 11) hx hb dL_jerks_199 (by decide) ?_
        obtain ⟨r40, e41, h⟩ := mc_ob_e h
        refine mg_Vi (As := [.int 11]) (rest := []) (ct_X8_count l (w := w) (I := I17) (R := R18) e41) C K hP hS hl.1 kf_144 (by decide) rfl rfl ml_L_10 wy_X8_count wd_X8_count rfl rfl rfl ⟨Nat.le_of_ble_eq_true rfl, Nat.le_of_ble_eq_true rfl⟩ (Nat.le_of_ble_eq_true rfl) ⟨Nat.zero_le _, Nat.zero_le _⟩ dL_jerks_201 (fun H locs hP hS => ?_)
        refine lv_iload hx hb dL_jerks_204 (lv_at hl 2 rfl) ?_
        refine lv_icmp_ne (tgt := 289) hx hb dL_jerks_206 (by decide) (fun c42 => ?_) (fun c42 => ?_)
        · replace h := mc_ie h c42
          refine lv_iconst (v := 0) hx hb dL_jerks_289 (by decide) ?_
          exact bk_L_jerks_J290 C hr hlk K  I17 R18 v2 0 h  hP hS (lv_sub hl [5, 7] rfl)
        · replace h := mc_it h c42
          refine lv_aload_n hx hb dL_jerks_209 rfl (lv_at hl 5 rfl) ?_
          refine lv_bipush (v := 7) hx hb dL_jerks_210 (by decide) ?_
          obtain ⟨r43, e44, h⟩ := mc_ob_e h
          refine mg_Vi (As := [.int 7]) (rest := []) (ct_X8_count l (w := w) (I := I17) (R := R18) e44) C K hP hS hl.1 kf_144 (by decide) rfl rfl ml_L_10 wy_X8_count wd_X8_count rfl rfl rfl ⟨Nat.le_of_ble_eq_true rfl, Nat.le_of_ble_eq_true rfl⟩ (Nat.le_of_ble_eq_true rfl) ⟨Nat.zero_le _, Nat.zero_le _⟩ dL_jerks_212 (fun H locs hP hS => ?_)
          refine lv_iload hx hb dL_jerks_215 (lv_at hl 3 rfl) ?_
          refine lv_iload hx hb dL_jerks_217 (lv_at hl 4 rfl) ?_
          refine lv_if_eq (tgt := 226) hx hb dL_jerks_219 (by decide) (fun c45 => ?_) (fun c45 => ?_)
          · replace h := mc_it h c45
            refine lv_iconst (v := 0) hx hb dL_jerks_226 (by decide) ?_
            exact bk_L_jerks_J227 C hr hlk K  I17 R18 v2 v4 v5 s0 0 r11 r43 h  hP hS (lv_sub hl [5, 7, 8, 9, 4] rfl)
          · replace h := mc_ie h c45
            refine lv_iconst (v := 1) hx hb dL_jerks_222 (by decide) ?_
            refine lv_goto (tgt := 227) hx hb dL_jerks_223 (by decide) ?_
            exact bk_L_jerks_J227 C hr hlk K  I17 R18 v2 v4 v5 s0 1 r11 r43 h  hP hS (lv_sub hl [5, 7, 8, 9, 4] rfl)
  · replace h := mc_ie h c21
    refine lv_aload_n hx hb dL_jerks_142 rfl (lv_at hl 5 rfl) ?_
    obtain ⟨r61, e62, h⟩ := mc_ob_e h
    refine mg_Sj (As := [.ref (w.2.2.1 144)]) (rest := []) (ct_L_print l (w := w) (I := I17) (R := R18) e62) C K hP hS hl.1 ml_L_52 wy_L_print wd_L_print rfl rfl rfl ⟨Nat.le_of_ble_eq_true rfl, Nat.le_of_ble_eq_true rfl⟩ (Nat.le_of_ble_eq_true rfl) ⟨Nat.zero_le _, Nat.zero_le _⟩ dL_jerks_143 (fun H locs hP hS => ?_)
    refine lv_lload_n hx hb dL_jerks_146 rfl (lv_at hl 7 rfl) ?_
    refine W.lcmp hx hb dL_jerks_147 ?_
    refine lv_if_ne (tgt := 172) hx hb dL_jerks_148 (by decide) (fun c63 => ?_) (fun c63 => ?_)
    · replace h := mc_ie h c63
      refine lv_iconst (v := 0) hx hb dL_jerks_172 (by decide) ?_
      cases h
      exact mt_zX hC hr hlk K hP hS (by decide) (by decide) dL_jerks_173
    · replace h := mc_it h c63
      refine lv_iload_n hx hb dL_jerks_151 rfl (lv_at hl 6 rfl) ?_
      refine lv_if_eq (tgt := 168) hx hb dL_jerks_152 (by decide) (fun c64 => ?_) (fun c64 => ?_)
      · replace h := mc_it h c64
        refine lv_iconst (v := 1) hx hb dL_jerks_168 (by decide) ?_
        refine lv_goto (tgt := 173) hx hb dL_jerks_169 (by decide) ?_
        cases h
        exact mt_zX hC hr hlk K hP hS (by decide) (by decide) dL_jerks_173
      · replace h := mc_ie h c64
        refine lv_iload hx hb dL_jerks_155 (lv_at hl 9 rfl) ?_
        refine lv_if_lt (tgt := 168) hx hb dL_jerks_157 (by decide) (fun c65 => ?_) (fun c65 => ?_)
        · replace h := mc_it h c65
          refine lv_iconst (v := 1) hx hb dL_jerks_168 (by decide) ?_
          refine lv_goto (tgt := 173) hx hb dL_jerks_169 (by decide) ?_
          cases h
          exact mt_zX hC hr hlk K hP hS (by decide) (by decide) dL_jerks_173
        · replace h := mc_ie h c65
          refine lv_iload hx hb dL_jerks_160 (lv_at hl 9 rfl) ?_
          refine lv_sipush (v := 999) hx hb dL_jerks_162 (by decide) ?_
          refine lv_icmp_le (tgt := 172) hx hb dL_jerks_165 (by decide) (fun c66 => ?_) (fun c66 => ?_)
          · replace h := mc_it h c66
            refine lv_iconst (v := 0) hx hb dL_jerks_172 (by decide) ?_
            cases h
            exact mt_zX hC hr hlk K hP hS (by decide) (by decide) dL_jerks_173
          · replace h := mc_ie h c66
            refine lv_iconst (v := 1) hx hb dL_jerks_168 (by decide) ?_
            refine lv_goto (tgt := 173) hx hb dL_jerks_169 (by decide) ?_
            cases h
            exact mt_zX hC hr hlk K hP hS (by decide) (by decide) dL_jerks_173
set_option maxHeartbeats 4000000 in
set_option maxRecDepth 100000 in
theorem bk_L_jerks_B28 {p : Program} {l : Launch} {e : Env} {s : State} {m : MethodId} {args : Array Value} {below : List Frame} {meth : Method} {c : Code} (C : CallFix p m c cL_jerks 12 s args mc_big RL) (hr : meth.sig.returnType = (some .boolean)) (hlk : meth.locks = false) {w : mc_w} (K : mc_K mc_k 152 w s) {F : Nat} {Iz : Nat → Nat → Int32} {Rz : Nat → Nat → Option Nat} {rz : Int32} {k28 : (Nat → Nat → Int32) → (Nat → Nat → Option Nat) → Int32 → Int64 → Int32 → Int32 → Int32 → (Option ((Nat → Nat → Int32) × (Nat → Nat → Option Nat) × Int32))} (hk28 : ∀ (I : Nat → Nat → Int32) (R : Nat → Nat → Option Nat) (v1 : Int32) (v2 : Int64) (v4 : Int32) (v5 : Int32) (v6 : Int32), k28 I R v1 v2 v4 v5 v6 = some (Iz, Rz, rz) → ∀ {H : Heap} {locs : List Loc} {ls : Array Slot}, mc_P mc_k 152 w I R H → va_S (mc_A 152 w) s.heap H locs → lv_has ls 12 [(0, .ref (w.2.2.1 144)), (1, .int v1), (2, .long v2), (4, .int v4), (5, .int v5), (6, .int v6)] → W p l e ({ frames := 8, cells := 0, slots := 0, locals := 184 } : Room) s m args below meth c H locs 0 0 (MQ below (mc_Q (some (.int rz)) (fun t => mc_B mc_k 152 w Iz Rz t ∧ ¬ (rz ≠ 0 ∧ rz ≠ 1)) (mc_A 152 w)) args s 0 0 (mc_A 152 w)) (F0 m 28 ls [])) : ∀ (I : Nat → Nat → Int32) (R : Nat → Nat → Option Nat) (v1 : Int32) (v2 : Int64) (v4 : Int32) (v5 : Int32) (v6 : Int32), mi_L_jerks_B28 k28 F I R v1 v2 v4 v5 v6 = some (Iz, Rz, rz) → ∀ {H : Heap} {locs : List Loc} {ls : Array Slot}, mc_P mc_k 152 w I R H → va_S (mc_A 152 w) s.heap H locs → lv_has ls 12 [(0, .ref (w.2.2.1 144)), (1, .int v1), (2, .long v2), (4, .int v4), (5, .int v5), (6, .int v6)] → W p l e ({ frames := 8, cells := 0, slots := 0, locals := 184 } : Room) s m args below meth c H locs 0 0 (MQ below (mc_Q (some (.int rz)) (fun t => mc_B mc_k 152 w Iz Rz t ∧ ¬ (rz ≠ 0 ∧ rz ≠ 1)) (mc_A 152 w)) args s 0 0 (mc_A 152 w)) (F0 m 28 ls []) := by
  intro I R v1 v2 v4 v5 v6 h  H locs ls hP hS hl
  have hx := C.1
  have hb := C.2.1
  have hC := And.intro C.1 C.2.1
  unfold mi_L_jerks_B28 at h
  refine lv_iload hx hb dL_jerks_28 (lv_at hl 5 rfl) ?_
  refine lv_if_lt (tgt := 70) hx hb dL_jerks_30 (by decide) (fun c9 => ?_) (fun c9 => ?_)
  · replace h := mc_it h c9
    refine lv_iload hx hb dL_jerks_70 (lv_at hl 3 rfl) ?_
    refine lv_sipush (v := (-1005)) hx hb dL_jerks_72 (by decide) ?_
    refine lv_icmp_eq (tgt := 103) hx hb dL_jerks_75 (by decide) (fun c10 => ?_) (fun c10 => ?_)
    · replace h := mc_it h c10
      refine lv_iconst (v := 0) hx hb dL_jerks_103 (by decide) ?_
      exact bk_L_jerks_J104 C hr hlk K  I R v1 v2 v4 v5 0 h  hP hS (lv_sub hl [0, 1, 2, 3, 4] rfl)
    · replace h := mc_ie h c10
      refine lv_iload_n hx hb dL_jerks_78 rfl (lv_at hl 1 rfl) ?_
      refine lv_aload_n hx hb dL_jerks_79 rfl (lv_at hl 0 rfl) ?_
      refine lv_bipush (v := 16) hx hb dL_jerks_80 (by decide) ?_
      obtain ⟨r67, e68, h⟩ := mc_ob_e h
      refine mg_Vi (As := [.int 16]) (rest := [.int v1]) (ct_X8_count l (w := w) (I := I) (R := R) e68) C K hP hS hl.1 kf_144 (by decide) rfl rfl ml_L_10 wy_X8_count wd_X8_count rfl rfl rfl ⟨Nat.le_of_ble_eq_true rfl, Nat.le_of_ble_eq_true rfl⟩ (Nat.le_of_ble_eq_true rfl) ⟨Nat.zero_le _, Nat.zero_le _⟩ dL_jerks_82 (fun H locs hP hS => ?_)
      refine lv_icmp_gt (tgt := 99) hx hb dL_jerks_85 (by decide) (fun c69 => ?_) (fun c69 => ?_)
      · replace h := mc_it h c69
        refine lv_iconst (v := 1) hx hb dL_jerks_99 (by decide) ?_
        refine lv_goto (tgt := 104) hx hb dL_jerks_100 (by decide) ?_
        exact bk_L_jerks_J104 C hr hlk K  I R v1 v2 v4 v5 1 h  hP hS (lv_sub hl [0, 1, 2, 3, 4] rfl)
      · replace h := mc_ie h c69
        refine lv_iload_n hx hb dL_jerks_88 rfl (lv_at hl 1 rfl) ?_
        refine lv_ineg hx hb dL_jerks_89 ?_
        refine lv_aload_n hx hb dL_jerks_90 rfl (lv_at hl 0 rfl) ?_
        refine lv_bipush (v := 16) hx hb dL_jerks_91 (by decide) ?_
        obtain ⟨r70, e71, h⟩ := mc_ob_e h
        refine mg_Vi (As := [.int 16]) (rest := [.int (-v1)]) (ct_X8_count l (w := w) (I := I) (R := R) e71) C K hP hS hl.1 kf_144 (by decide) rfl rfl ml_L_10 wy_X8_count wd_X8_count rfl rfl rfl ⟨Nat.le_of_ble_eq_true rfl, Nat.le_of_ble_eq_true rfl⟩ (Nat.le_of_ble_eq_true rfl) ⟨Nat.zero_le _, Nat.zero_le _⟩ dL_jerks_93 (fun H locs hP hS => ?_)
        refine lv_icmp_le (tgt := 103) hx hb dL_jerks_96 (by decide) (fun c72 => ?_) (fun c72 => ?_)
        · replace h := mc_it h c72
          refine lv_iconst (v := 0) hx hb dL_jerks_103 (by decide) ?_
          exact bk_L_jerks_J104 C hr hlk K  I R v1 v2 v4 v5 0 h  hP hS (lv_sub hl [0, 1, 2, 3, 4] rfl)
        · replace h := mc_ie h c72
          refine lv_iconst (v := 1) hx hb dL_jerks_99 (by decide) ?_
          refine lv_goto (tgt := 104) hx hb dL_jerks_100 (by decide) ?_
          exact bk_L_jerks_J104 C hr hlk K  I R v1 v2 v4 v5 1 h  hP hS (lv_sub hl [0, 1, 2, 3, 4] rfl)
  · replace h := mc_ie h c9
    refine lv_aload_n hx hb dL_jerks_33 rfl (lv_at hl 0 rfl) ?_
    refine lv_iload hx hb dL_jerks_34 (lv_at hl 5 rfl) ?_
    refine lv_iconst (v := 0) hx hb dL_jerks_36 (by decide) ?_
    obtain ⟨r73, e74, h⟩ := mc_ob_e h
    refine mg_Vi (As := [.int v6, .int 0]) (rest := []) (ct_X8_bottle l (w := w) (I := I) (R := R) e74) C K hP hS hl.1 kf_144 (by decide) rfl rfl ml_L_16 wy_X8_bottle wd_X8_bottle rfl rfl rfl ⟨Nat.le_of_ble_eq_true rfl, Nat.le_of_ble_eq_true rfl⟩ (Nat.le_of_ble_eq_true rfl) ⟨Nat.zero_le _, Nat.zero_le _⟩ dL_jerks_37 (fun H locs hP hS => ?_)
    refine lv_iload hx hb dL_jerks_40 (lv_at hl 4 rfl) ?_
    refine lv_icmp_ge (tgt := 60) hx hb dL_jerks_42 (by decide) (fun c75 => ?_) (fun c75 => ?_)
    · replace h := mc_it h c75
      refine lv_iload hx hb dL_jerks_60 (lv_at hl 3 rfl) ?_
      refine lv_istore (i := 4) (lv' := [(4, .int v4), (0, .ref (w.2.2.1 144)), (1, .int v1), (2, .long v2), (5, .int v5), (6, .int v6)]) hx hb dL_jerks_62 hl (by decide) rfl (fun ls hl => ?_)
      obtain ⟨x76, ex76, h⟩ := mc_bn_e h
      refine lv_iinc (v := x76) (lv' := [(6, .int x76), (4, .int v4), (0, .ref (w.2.2.1 144)), (1, .int v1), (2, .long v2), (5, .int v5)]) hx hb dL_jerks_64 hl (k := 5) rfl (by rw [ex76]; rfl) (by decide) rfl (fun ls hl => ?_)
      refine lv_goto (tgt := 28) hx hb dL_jerks_67 (by decide) ?_
      exact hk28 I R v1 v2 v4 v5 x76 h  hP hS (lv_sub hl [2, 3, 4, 1, 5, 0] rfl)
    · replace h := mc_ie h c75
      refine lv_aload_n hx hb dL_jerks_45 rfl (lv_at hl 0 rfl) ?_
      refine lv_iload hx hb dL_jerks_46 (lv_at hl 5 rfl) ?_
      refine lv_iconst (v := 3) hx hb dL_jerks_48 (by decide) ?_
      obtain ⟨r77, e78, h⟩ := mc_ob_e h
      refine mg_Vi (As := [.int v6, .int 3]) (rest := []) (ct_X8_bottle l (w := w) (I := I) (R := R) e78) C K hP hS hl.1 kf_144 (by decide) rfl rfl ml_L_16 wy_X8_bottle wd_X8_bottle rfl rfl rfl ⟨Nat.le_of_ble_eq_true rfl, Nat.le_of_ble_eq_true rfl⟩ (Nat.le_of_ble_eq_true rfl) ⟨Nat.zero_le _, Nat.zero_le _⟩ dL_jerks_49 (fun H locs hP hS => ?_)
      refine lv_if_ne (tgt := 60) hx hb dL_jerks_52 (by decide) (fun c79 => ?_) (fun c79 => ?_)
      · replace h := mc_ie h c79
        refine lv_iload hx hb dL_jerks_60 (lv_at hl 3 rfl) ?_
        refine lv_istore (i := 4) (lv' := [(4, .int v4), (0, .ref (w.2.2.1 144)), (1, .int v1), (2, .long v2), (5, .int v5), (6, .int v6)]) hx hb dL_jerks_62 hl (by decide) rfl (fun ls hl => ?_)
        obtain ⟨x80, ex80, h⟩ := mc_bn_e h
        refine lv_iinc (v := x80) (lv' := [(6, .int x80), (4, .int v4), (0, .ref (w.2.2.1 144)), (1, .int v1), (2, .long v2), (5, .int v5)]) hx hb dL_jerks_64 hl (k := 5) rfl (by rw [ex80]; rfl) (by decide) rfl (fun ls hl => ?_)
        refine lv_goto (tgt := 28) hx hb dL_jerks_67 (by decide) ?_
        exact hk28 I R v1 v2 v4 v5 x80 h  hP hS (lv_sub hl [2, 3, 4, 1, 5, 0] rfl)
      · replace h := mc_it h c79
        refine lv_iload hx hb dL_jerks_55 (lv_at hl 5 rfl) ?_
        refine lv_goto (tgt := 62) hx hb dL_jerks_57 (by decide) ?_
        refine lv_istore (i := 4) (lv' := [(4, .int v6), (0, .ref (w.2.2.1 144)), (1, .int v1), (2, .long v2), (5, .int v5), (6, .int v6)]) hx hb dL_jerks_62 hl (by decide) rfl (fun ls hl => ?_)
        obtain ⟨x81, ex81, h⟩ := mc_bn_e h
        refine lv_iinc (v := x81) (lv' := [(6, .int x81), (4, .int v6), (0, .ref (w.2.2.1 144)), (1, .int v1), (2, .long v2), (5, .int v5)]) hx hb dL_jerks_64 hl (k := 5) rfl (by rw [ex81]; rfl) (by decide) rfl (fun ls hl => ?_)
        refine lv_goto (tgt := 28) hx hb dL_jerks_67 (by decide) ?_
        exact hk28 I R v1 v2 v6 v5 x81 h  hP hS (lv_sub hl [2, 3, 4, 1, 5, 0] rfl)
theorem bk_L_jerks_L28 {p : Program} {l : Launch} {e : Env} {s : State} {m : MethodId} {args : Array Value} {below : List Frame} {meth : Method} {c : Code} (C : CallFix p m c cL_jerks 12 s args mc_big RL) (hr : meth.sig.returnType = (some .boolean)) (hlk : meth.locks = false) {w : mc_w} (K : mc_K mc_k 152 w s) {F : Nat} {Iz : Nat → Nat → Int32} {Rz : Nat → Nat → Option Nat} {rz : Int32} : ∀ n : Nat, ∀ (I : Nat → Nat → Int32) (R : Nat → Nat → Option Nat) (v1 : Int32) (v2 : Int64) (v4 : Int32) (v5 : Int32) (v6 : Int32), mi_L_jerks_L28 F n I R v1 v2 v4 v5 v6 = some (Iz, Rz, rz) → ∀ {H : Heap} {locs : List Loc} {ls : Array Slot}, mc_P mc_k 152 w I R H → va_S (mc_A 152 w) s.heap H locs → lv_has ls 12 [(0, .ref (w.2.2.1 144)), (1, .int v1), (2, .long v2), (4, .int v4), (5, .int v5), (6, .int v6)] → W p l e ({ frames := 8, cells := 0, slots := 0, locals := 184 } : Room) s m args below meth c H locs 0 0 (MQ below (mc_Q (some (.int rz)) (fun t => mc_B mc_k 152 w Iz Rz t ∧ ¬ (rz ≠ 0 ∧ rz ≠ 1)) (mc_A 152 w)) args s 0 0 (mc_A 152 w)) (F0 m 28 ls []) := by
  intro n
  induction n with
  | zero =>
    intro I R v1 v2 v4 v5 v6 h
    cases h
  | succ n ih =>
    intro I R v1 v2 v4 v5 v6 h
    exact bk_L_jerks_B28 C hr hlk K  ih I R v1 v2 v4 v5 v6 h
set_option maxHeartbeats 4000000 in
set_option maxRecDepth 100000 in
theorem ct_L_jerks (l : Launch) {w : mc_w} {I : Nat → Nat → Int32} {R : Nat → Nat → Option Nat} {F : Nat} {v1 : Int32} {Iz : Nat → Nat → Int32} {Rz : Nat → Nat → Option Nat} {rz : Int32} (h : mi_L_jerks F I R v1 = some (Iz, Rz, rz)) : Met l yL_jerks (Cond.code yL_jerks cL_jerks 12 (some .boolean) :: mc_big) ({ frames := 8, cells := 0, slots := 0, locals := 184 } : Room) (va_Pc [.ref (w.2.2.1 144), .int v1] (mc_B mc_k 152 w I R)) (mc_Q (some (.int rz)) (fun t => mc_B mc_k 152 w Iz Rz t ∧ ¬ (rz ≠ 0 ∧ rz ≠ 1)) (mc_A 152 w)) 0 0 (mc_A 152 w) := by
  refine Met.ofW (cc := cL_jerks) (maxL := 12) (ret := (some .boolean)) (by decide) rfl ?_
  intro p e s m args below meth c s₁ B hml hv
  obtain ⟨rfl, hP, K⟩ := hv
  have hown : s.vm.findClass RL = some m.cls := findClass_of_methodNamed B.named
  have C : CallFix p m c cL_jerks 12 s _ mc_big RL := ⟨B.exec, B.bytes, hml, hown, fun w hw => atoms_spec B.pre w (List.mem_cons_of_mem _ hw)⟩
  have hx := C.1
  have hb := C.2.1
  have hC := And.intro C.1 C.2.1
  have hr := B.returns
  have hlk := B.notSynchronized
  have hS : va_S (mc_A 152 w) s.heap s.heap [] := va_S.rf
  have hl := lv_entry ([.ref (w.2.2.1 144), .int v1]) (n := 12) (Nat.le_of_ble_eq_true rfl)
  rw [lg_entry_eq]
  generalize (lg_sl ([.ref (w.2.2.1 144), .int v1]) ++ List.replicate (12 - (lg_sl ([.ref (w.2.2.1 144), .int v1])).length) Slot.unset).toArray = ls at hl ⊢
  have hl : lv_has ls 12 [(0, .ref (w.2.2.1 144)), (1, .int v1)] := hl
  unfold mi_L_jerks at h
  refine lv_aload_n hx hb dL_jerks_0 rfl (lv_at hl 0 rfl) ?_
  obtain ⟨r1, e2, h⟩ := mc_ob_e h
  refine mg_Sj (As := [.ref (w.2.2.1 144)]) (rest := []) (ct_L_print l (w := w) (I := I) (R := R) e2) C K hP hS hl.1 ml_L_52 wy_L_print wd_L_print rfl rfl rfl ⟨Nat.le_of_ble_eq_true rfl, Nat.le_of_ble_eq_true rfl⟩ (Nat.le_of_ble_eq_true rfl) ⟨Nat.zero_le _, Nat.zero_le _⟩ dL_jerks_1 (fun H locs hP hS => ?_)
  refine lv_lstore_n (i := 2) (lv' := [(2, .long r1), (0, .ref (w.2.2.1 144)), (1, .int v1)]) hx hb dL_jerks_4 rfl hl (by decide) rfl (fun ls hl => ?_)
  refine lv_sipush (v := (-1005)) hx hb dL_jerks_5 (by decide) ?_
  refine lv_istore (i := 4) (lv' := [(4, .int (-1005)), (2, .long r1), (0, .ref (w.2.2.1 144)), (1, .int v1)]) hx hb dL_jerks_8 hl (by decide) rfl (fun ls hl => ?_)
  refine lv_aload_n hx hb dL_jerks_10 rfl (lv_at hl 2 rfl) ?_
  refine lv_iconst (v := 1) hx hb dL_jerks_11 (by decide) ?_
  obtain ⟨r3, e4, h⟩ := mc_ob_e h
  refine mg_Vi (As := [.int 1]) (rest := []) (ct_X8_count l (w := w) (I := I) (R := R) e4) C K hP hS hl.1 kf_144 (by decide) rfl rfl ml_L_10 wy_X8_count wd_X8_count rfl rfl rfl ⟨Nat.le_of_ble_eq_true rfl, Nat.le_of_ble_eq_true rfl⟩ (Nat.le_of_ble_eq_true rfl) ⟨Nat.zero_le _, Nat.zero_le _⟩ dL_jerks_12 (fun H locs hP hS => ?_)
  refine lv_iload_n hx hb dL_jerks_15 rfl (lv_at hl 3 rfl) ?_
  refine lv_iadd hx hb dL_jerks_16 ?_
  obtain ⟨x5, ex5, h⟩ := mc_bn_e h
  refine mv_top ex5 ?_
  refine lv_istore (i := 5) (lv' := [(5, .int x5), (4, .int (-1005)), (2, .long r1), (0, .ref (w.2.2.1 144)), (1, .int v1)]) hx hb dL_jerks_17 hl (by decide) rfl (fun ls hl => ?_)
  refine lv_aload_n hx hb dL_jerks_19 rfl (lv_at hl 3 rfl) ?_
  refine lv_iconst (v := 5) hx hb dL_jerks_20 (by decide) ?_
  obtain ⟨r6, e7, h⟩ := mc_ob_e h
  refine mg_Vi (As := [.int 5]) (rest := []) (ct_X8_count l (w := w) (I := I) (R := R) e7) C K hP hS hl.1 kf_144 (by decide) rfl rfl ml_L_10 wy_X8_count wd_X8_count rfl rfl rfl ⟨Nat.le_of_ble_eq_true rfl, Nat.le_of_ble_eq_true rfl⟩ (Nat.le_of_ble_eq_true rfl) ⟨Nat.zero_le _, Nat.zero_le _⟩ dL_jerks_21 (fun H locs hP hS => ?_)
  refine lv_iconst (v := 1) hx hb dL_jerks_24 (by decide) ?_
  refine lv_isub hx hb dL_jerks_25 ?_
  obtain ⟨x8, ex8, h⟩ := mc_bn_e h
  refine mv_top ex8 ?_
  refine lv_istore (i := 6) (lv' := [(6, .int x8), (5, .int x5), (4, .int (-1005)), (2, .long r1), (0, .ref (w.2.2.1 144)), (1, .int v1)]) hx hb dL_jerks_26 hl (by decide) rfl (fun ls hl => ?_)
  exact bk_L_jerks_L28 C hr hlk K  F I R v1 r1 (-1005) x5 x8 h  hP hS (lv_sub hl [4, 5, 3, 2, 1, 0] rfl)
set_option maxHeartbeats 4000000 in
set_option maxRecDepth 100000 in
theorem ct_L_act (l : Launch) {w : mc_w} {I : Nat → Nat → Int32} {R : Nat → Nat → Option Nat} {F : Nat} {v1 : Int32} {v2 : Int32} {Iz : Nat → Nat → Int32} {Rz : Nat → Nat → Option Nat} {rz : Int32} (h : mi_L_act F I R v1 v2 = some (Iz, Rz, rz)) : Met l yL_act (Cond.code yL_act cL_act 3 (some .int) :: mc_big) ({ frames := 7, cells := 0, slots := 0, locals := 156 } : Room) (va_Pc [.ref (w.2.2.1 144), .int v1, .int v2] (mc_B mc_k 152 w I R)) (mc_Q (some (.int rz)) (mc_B mc_k 152 w Iz Rz) (mc_A 152 w)) 0 0 (mc_A 152 w) := by
  refine Met.ofW (cc := cL_act) (maxL := 3) (ret := (some .int)) (by decide) rfl ?_
  intro p e s m args below meth c s₁ B hml hv
  obtain ⟨rfl, hP, K⟩ := hv
  have hown : s.vm.findClass RL = some m.cls := findClass_of_methodNamed B.named
  have C : CallFix p m c cL_act 3 s _ mc_big RL := ⟨B.exec, B.bytes, hml, hown, fun w hw => atoms_spec B.pre w (List.mem_cons_of_mem _ hw)⟩
  have hx := C.1
  have hb := C.2.1
  have hC := And.intro C.1 C.2.1
  have hr := B.returns
  have hlk := B.notSynchronized
  have hS : va_S (mc_A 152 w) s.heap s.heap [] := va_S.rf
  have hl := lv_entry ([.ref (w.2.2.1 144), .int v1, .int v2]) (n := 3) (Nat.le_of_ble_eq_true rfl)
  rw [lg_entry_eq]
  generalize (lg_sl ([.ref (w.2.2.1 144), .int v1, .int v2]) ++ List.replicate (3 - (lg_sl ([.ref (w.2.2.1 144), .int v1, .int v2])).length) Slot.unset).toArray = ls at hl ⊢
  have hl : lv_has ls 3 [(0, .ref (w.2.2.1 144)), (1, .int v1), (2, .int v2)] := hl
  unfold mi_L_act at h
  refine lv_iload_n hx hb dL_act_0 rfl (lv_at hl 1 rfl) ?_
  refine lv_bipush (v := 15) hx hb dL_act_1 (by decide) ?_
  obtain ⟨r1, e2, h⟩ := mc_ob_e h
  refine mg_Si (As := [.int v1, .int 15]) (rest := []) (ct_L_low l (w := w) (I := I) (R := R) e2) C K hP hS hl.1 ml_L_68 wy_L_low wd_L_low rfl rfl rfl ⟨Nat.le_of_ble_eq_true rfl, Nat.le_of_ble_eq_true rfl⟩ (Nat.le_of_ble_eq_true rfl) ⟨Nat.zero_le _, Nat.zero_le _⟩ dL_act_3 (fun H locs hP hS => ?_)
  by_cases c3 : r1 = 0
  · replace h := mc_it h c3
    refine lv_tableIn (off := 66) (tgt := 72) hx hb dL_act_6 (by rw [c3]; decide) (by rw [c3]; decide) (by rw [c3]; decide) (by decide) ?_
    refine lv_aload_n hx hb dL_act_72 rfl (lv_at hl 0 rfl) ?_
    refine lv_iload_n hx hb dL_act_73 rfl (lv_at hl 2 rfl) ?_
    refine lv_bipush (v := 6) hx hb dL_act_74 (by decide) ?_
    obtain ⟨r4, e5, h⟩ := mc_ob_e h
    refine mg_Si (As := [.int v2, .int 6]) (rest := [.ref (w.2.2.1 144)]) (ct_L_low l (w := w) (I := I) (R := R) e5) C K hP hS hl.1 ml_L_68 wy_L_low wd_L_low rfl rfl rfl ⟨Nat.le_of_ble_eq_true rfl, Nat.le_of_ble_eq_true rfl⟩ (Nat.le_of_ble_eq_true rfl) ⟨Nat.zero_le _, Nat.zero_le _⟩ dL_act_76 (fun H locs hP hS => ?_)
    refine lv_if_ne (tgt := 98) hx hb dL_act_79 (by decide) (fun c6 => ?_) (fun c6 => ?_)
    · replace h := mc_ie h c6
      refine lv_iload_n hx hb dL_act_98 rfl (lv_at hl 2 rfl) ?_
      refine lv_iconst (v := 3) hx hb dL_act_99 (by decide) ?_
      refine lv_ishr hx hb dL_act_100 ?_
      refine lv_sipush (v := 170) hx hb dL_act_101 (by decide) ?_
      obtain ⟨r7, e8, h⟩ := mc_ob_e h
      refine mg_Si (As := [.int (v2 >>> (3 &&& 31)), .int 170]) (rest := [.ref (w.2.2.1 144)]) (ct_L_low l (w := w) (I := I) (R := R) e8) C K hP hS hl.1 ml_L_68 wy_L_low wd_L_low rfl rfl rfl ⟨Nat.le_of_ble_eq_true rfl, Nat.le_of_ble_eq_true rfl⟩ (Nat.le_of_ble_eq_true rfl) ⟨Nat.zero_le _, Nat.zero_le _⟩ dL_act_104 (fun H locs hP hS => ?_)
      refine lv_bipush (v := 40) hx hb dL_act_107 (by decide) ?_
      refine lv_isub hx hb dL_act_109 ?_
      obtain ⟨I9, R10, r11, e12, h⟩ := mc_ob3_e h
      refine mg_Vi (As := [.int (r7 - 40)]) (rest := []) (ct_X8_pay l (w := w) (I := I) (R := R) e12) C K hP hS hl.1 kf_144 (by decide) rfl rfl ml_L_65 wy_X8_pay wd_X8_pay rfl rfl rfl ⟨Nat.le_of_ble_eq_true rfl, Nat.le_of_ble_eq_true rfl⟩ (Nat.le_of_ble_eq_true rfl) ⟨Nat.zero_le _, Nat.zero_le _⟩ dL_act_110 (fun H locs hP hS => ?_)
      cases h
      exact mt_i hC hr hlk K hP hS dL_act_113
    · replace h := mc_it h c6
      refine lv_iload_n hx hb dL_act_82 rfl (lv_at hl 2 rfl) ?_
      refine lv_iconst (v := 3) hx hb dL_act_83 (by decide) ?_
      refine lv_ishr hx hb dL_act_84 ?_
      refine lv_sipush (v := 900) hx hb dL_act_85 (by decide) ?_
      obtain ⟨r13, e14, h⟩ := mc_ob_e h
      refine mg_Si (As := [.int (v2 >>> (3 &&& 31)), .int 900]) (rest := [.ref (w.2.2.1 144)]) (ct_L_low l (w := w) (I := I) (R := R) e14) C K hP hS hl.1 ml_L_68 wy_L_low wd_L_low rfl rfl rfl ⟨Nat.le_of_ble_eq_true rfl, Nat.le_of_ble_eq_true rfl⟩ (Nat.le_of_ble_eq_true rfl) ⟨Nat.zero_le _, Nat.zero_le _⟩ dL_act_88 (fun H locs hP hS => ?_)
      refine lv_sipush (v := 400) hx hb dL_act_91 (by decide) ?_
      refine lv_isub hx hb dL_act_94 ?_
      refine lv_goto (tgt := 110) hx hb dL_act_95 (by decide) ?_
      obtain ⟨I15, R16, r17, e18, h⟩ := mc_ob3_e h
      refine mg_Vi (As := [.int (r13 - 400)]) (rest := []) (ct_X8_pay l (w := w) (I := I) (R := R) e18) C K hP hS hl.1 kf_144 (by decide) rfl rfl ml_L_65 wy_X8_pay wd_X8_pay rfl rfl rfl ⟨Nat.le_of_ble_eq_true rfl, Nat.le_of_ble_eq_true rfl⟩ (Nat.le_of_ble_eq_true rfl) ⟨Nat.zero_le _, Nat.zero_le _⟩ dL_act_110 (fun H locs hP hS => ?_)
      cases h
      exact mt_i hC hr hlk K hP hS dL_act_113
  replace h := mc_ie h c3
  by_cases c19 : r1 = 1
  · replace h := mc_it h c19
    refine lv_tableIn (off := 66) (tgt := 72) hx hb dL_act_6 (by rw [c19]; decide) (by rw [c19]; decide) (by rw [c19]; decide) (by decide) ?_
    refine lv_aload_n hx hb dL_act_72 rfl (lv_at hl 0 rfl) ?_
    refine lv_iload_n hx hb dL_act_73 rfl (lv_at hl 2 rfl) ?_
    refine lv_bipush (v := 6) hx hb dL_act_74 (by decide) ?_
    obtain ⟨r20, e21, h⟩ := mc_ob_e h
    refine mg_Si (As := [.int v2, .int 6]) (rest := [.ref (w.2.2.1 144)]) (ct_L_low l (w := w) (I := I) (R := R) e21) C K hP hS hl.1 ml_L_68 wy_L_low wd_L_low rfl rfl rfl ⟨Nat.le_of_ble_eq_true rfl, Nat.le_of_ble_eq_true rfl⟩ (Nat.le_of_ble_eq_true rfl) ⟨Nat.zero_le _, Nat.zero_le _⟩ dL_act_76 (fun H locs hP hS => ?_)
    refine lv_if_ne (tgt := 98) hx hb dL_act_79 (by decide) (fun c22 => ?_) (fun c22 => ?_)
    · replace h := mc_ie h c22
      refine lv_iload_n hx hb dL_act_98 rfl (lv_at hl 2 rfl) ?_
      refine lv_iconst (v := 3) hx hb dL_act_99 (by decide) ?_
      refine lv_ishr hx hb dL_act_100 ?_
      refine lv_sipush (v := 170) hx hb dL_act_101 (by decide) ?_
      obtain ⟨r23, e24, h⟩ := mc_ob_e h
      refine mg_Si (As := [.int (v2 >>> (3 &&& 31)), .int 170]) (rest := [.ref (w.2.2.1 144)]) (ct_L_low l (w := w) (I := I) (R := R) e24) C K hP hS hl.1 ml_L_68 wy_L_low wd_L_low rfl rfl rfl ⟨Nat.le_of_ble_eq_true rfl, Nat.le_of_ble_eq_true rfl⟩ (Nat.le_of_ble_eq_true rfl) ⟨Nat.zero_le _, Nat.zero_le _⟩ dL_act_104 (fun H locs hP hS => ?_)
      refine lv_bipush (v := 40) hx hb dL_act_107 (by decide) ?_
      refine lv_isub hx hb dL_act_109 ?_
      obtain ⟨I25, R26, r27, e28, h⟩ := mc_ob3_e h
      refine mg_Vi (As := [.int (r23 - 40)]) (rest := []) (ct_X8_pay l (w := w) (I := I) (R := R) e28) C K hP hS hl.1 kf_144 (by decide) rfl rfl ml_L_65 wy_X8_pay wd_X8_pay rfl rfl rfl ⟨Nat.le_of_ble_eq_true rfl, Nat.le_of_ble_eq_true rfl⟩ (Nat.le_of_ble_eq_true rfl) ⟨Nat.zero_le _, Nat.zero_le _⟩ dL_act_110 (fun H locs hP hS => ?_)
      cases h
      exact mt_i hC hr hlk K hP hS dL_act_113
    · replace h := mc_it h c22
      refine lv_iload_n hx hb dL_act_82 rfl (lv_at hl 2 rfl) ?_
      refine lv_iconst (v := 3) hx hb dL_act_83 (by decide) ?_
      refine lv_ishr hx hb dL_act_84 ?_
      refine lv_sipush (v := 900) hx hb dL_act_85 (by decide) ?_
      obtain ⟨r29, e30, h⟩ := mc_ob_e h
      refine mg_Si (As := [.int (v2 >>> (3 &&& 31)), .int 900]) (rest := [.ref (w.2.2.1 144)]) (ct_L_low l (w := w) (I := I) (R := R) e30) C K hP hS hl.1 ml_L_68 wy_L_low wd_L_low rfl rfl rfl ⟨Nat.le_of_ble_eq_true rfl, Nat.le_of_ble_eq_true rfl⟩ (Nat.le_of_ble_eq_true rfl) ⟨Nat.zero_le _, Nat.zero_le _⟩ dL_act_88 (fun H locs hP hS => ?_)
      refine lv_sipush (v := 400) hx hb dL_act_91 (by decide) ?_
      refine lv_isub hx hb dL_act_94 ?_
      refine lv_goto (tgt := 110) hx hb dL_act_95 (by decide) ?_
      obtain ⟨I31, R32, r33, e34, h⟩ := mc_ob3_e h
      refine mg_Vi (As := [.int (r29 - 400)]) (rest := []) (ct_X8_pay l (w := w) (I := I) (R := R) e34) C K hP hS hl.1 kf_144 (by decide) rfl rfl ml_L_65 wy_X8_pay wd_X8_pay rfl rfl rfl ⟨Nat.le_of_ble_eq_true rfl, Nat.le_of_ble_eq_true rfl⟩ (Nat.le_of_ble_eq_true rfl) ⟨Nat.zero_le _, Nat.zero_le _⟩ dL_act_110 (fun H locs hP hS => ?_)
      cases h
      exact mt_i hC hr hlk K hP hS dL_act_113
  replace h := mc_ie h c19
  by_cases c35 : r1 = 2
  · replace h := mc_it h c35
    refine lv_tableIn (off := 66) (tgt := 72) hx hb dL_act_6 (by rw [c35]; decide) (by rw [c35]; decide) (by rw [c35]; decide) (by decide) ?_
    refine lv_aload_n hx hb dL_act_72 rfl (lv_at hl 0 rfl) ?_
    refine lv_iload_n hx hb dL_act_73 rfl (lv_at hl 2 rfl) ?_
    refine lv_bipush (v := 6) hx hb dL_act_74 (by decide) ?_
    obtain ⟨r36, e37, h⟩ := mc_ob_e h
    refine mg_Si (As := [.int v2, .int 6]) (rest := [.ref (w.2.2.1 144)]) (ct_L_low l (w := w) (I := I) (R := R) e37) C K hP hS hl.1 ml_L_68 wy_L_low wd_L_low rfl rfl rfl ⟨Nat.le_of_ble_eq_true rfl, Nat.le_of_ble_eq_true rfl⟩ (Nat.le_of_ble_eq_true rfl) ⟨Nat.zero_le _, Nat.zero_le _⟩ dL_act_76 (fun H locs hP hS => ?_)
    refine lv_if_ne (tgt := 98) hx hb dL_act_79 (by decide) (fun c38 => ?_) (fun c38 => ?_)
    · replace h := mc_ie h c38
      refine lv_iload_n hx hb dL_act_98 rfl (lv_at hl 2 rfl) ?_
      refine lv_iconst (v := 3) hx hb dL_act_99 (by decide) ?_
      refine lv_ishr hx hb dL_act_100 ?_
      refine lv_sipush (v := 170) hx hb dL_act_101 (by decide) ?_
      obtain ⟨r39, e40, h⟩ := mc_ob_e h
      refine mg_Si (As := [.int (v2 >>> (3 &&& 31)), .int 170]) (rest := [.ref (w.2.2.1 144)]) (ct_L_low l (w := w) (I := I) (R := R) e40) C K hP hS hl.1 ml_L_68 wy_L_low wd_L_low rfl rfl rfl ⟨Nat.le_of_ble_eq_true rfl, Nat.le_of_ble_eq_true rfl⟩ (Nat.le_of_ble_eq_true rfl) ⟨Nat.zero_le _, Nat.zero_le _⟩ dL_act_104 (fun H locs hP hS => ?_)
      refine lv_bipush (v := 40) hx hb dL_act_107 (by decide) ?_
      refine lv_isub hx hb dL_act_109 ?_
      obtain ⟨I41, R42, r43, e44, h⟩ := mc_ob3_e h
      refine mg_Vi (As := [.int (r39 - 40)]) (rest := []) (ct_X8_pay l (w := w) (I := I) (R := R) e44) C K hP hS hl.1 kf_144 (by decide) rfl rfl ml_L_65 wy_X8_pay wd_X8_pay rfl rfl rfl ⟨Nat.le_of_ble_eq_true rfl, Nat.le_of_ble_eq_true rfl⟩ (Nat.le_of_ble_eq_true rfl) ⟨Nat.zero_le _, Nat.zero_le _⟩ dL_act_110 (fun H locs hP hS => ?_)
      cases h
      exact mt_i hC hr hlk K hP hS dL_act_113
    · replace h := mc_it h c38
      refine lv_iload_n hx hb dL_act_82 rfl (lv_at hl 2 rfl) ?_
      refine lv_iconst (v := 3) hx hb dL_act_83 (by decide) ?_
      refine lv_ishr hx hb dL_act_84 ?_
      refine lv_sipush (v := 900) hx hb dL_act_85 (by decide) ?_
      obtain ⟨r45, e46, h⟩ := mc_ob_e h
      refine mg_Si (As := [.int (v2 >>> (3 &&& 31)), .int 900]) (rest := [.ref (w.2.2.1 144)]) (ct_L_low l (w := w) (I := I) (R := R) e46) C K hP hS hl.1 ml_L_68 wy_L_low wd_L_low rfl rfl rfl ⟨Nat.le_of_ble_eq_true rfl, Nat.le_of_ble_eq_true rfl⟩ (Nat.le_of_ble_eq_true rfl) ⟨Nat.zero_le _, Nat.zero_le _⟩ dL_act_88 (fun H locs hP hS => ?_)
      refine lv_sipush (v := 400) hx hb dL_act_91 (by decide) ?_
      refine lv_isub hx hb dL_act_94 ?_
      refine lv_goto (tgt := 110) hx hb dL_act_95 (by decide) ?_
      obtain ⟨I47, R48, r49, e50, h⟩ := mc_ob3_e h
      refine mg_Vi (As := [.int (r45 - 400)]) (rest := []) (ct_X8_pay l (w := w) (I := I) (R := R) e50) C K hP hS hl.1 kf_144 (by decide) rfl rfl ml_L_65 wy_X8_pay wd_X8_pay rfl rfl rfl ⟨Nat.le_of_ble_eq_true rfl, Nat.le_of_ble_eq_true rfl⟩ (Nat.le_of_ble_eq_true rfl) ⟨Nat.zero_le _, Nat.zero_le _⟩ dL_act_110 (fun H locs hP hS => ?_)
      cases h
      exact mt_i hC hr hlk K hP hS dL_act_113
  replace h := mc_ie h c35
  by_cases c51 : r1 = 3
  · replace h := mc_it h c51
    refine lv_tableIn (off := 108) (tgt := 114) hx hb dL_act_6 (by rw [c51]; decide) (by rw [c51]; decide) (by rw [c51]; decide) (by decide) ?_
    refine lv_aload_n hx hb dL_act_114 rfl (lv_at hl 0 rfl) ?_
    refine lv_iload_n hx hb dL_act_115 rfl (lv_at hl 2 rfl) ?_
    refine lv_iconst (v := 3) hx hb dL_act_116 (by decide) ?_
    obtain ⟨r52, e53, h⟩ := mc_ob_e h
    refine mg_Si (As := [.int v2, .int 3]) (rest := [.ref (w.2.2.1 144)]) (ct_L_low l (w := w) (I := I) (R := R) e53) C K hP hS hl.1 ml_L_68 wy_L_low wd_L_low rfl rfl rfl ⟨Nat.le_of_ble_eq_true rfl, Nat.le_of_ble_eq_true rfl⟩ (Nat.le_of_ble_eq_true rfl) ⟨Nat.zero_le _, Nat.zero_le _⟩ dL_act_117 (fun H locs hP hS => ?_)
    refine lv_if_le (tgt := 127) hx hb dL_act_120 (by decide) (fun c54 => ?_) (fun c54 => ?_)
    · replace h := mc_it h c54
      refine lv_iconst (v := 0) hx hb dL_act_127 (by decide) ?_
      obtain ⟨I55, R56, r57, e58, h⟩ := mc_ob3_e h
      refine mg_Vi (As := [.int 0]) (rest := []) (ct_X8_clamp l (w := w) (I := I) (R := R) e58) C K hP hS hl.1 kf_144 (by decide) rfl rfl ml_L_71 wy_X8_clamp wd_X8_clamp rfl rfl rfl ⟨Nat.le_of_ble_eq_true rfl, Nat.le_of_ble_eq_true rfl⟩ (Nat.le_of_ble_eq_true rfl) ⟨Nat.zero_le _, Nat.zero_le _⟩ dL_act_128 (fun H locs hP hS => ?_)
      cases h
      exact mt_i hC hr hlk K hP hS dL_act_131
    · replace h := mc_ie h c54
      refine lv_iconst (v := 1) hx hb dL_act_123 (by decide) ?_
      refine lv_goto (tgt := 128) hx hb dL_act_124 (by decide) ?_
      obtain ⟨I59, R60, r61, e62, h⟩ := mc_ob3_e h
      refine mg_Vi (As := [.int 1]) (rest := []) (ct_X8_clamp l (w := w) (I := I) (R := R) e62) C K hP hS hl.1 kf_144 (by decide) rfl rfl ml_L_71 wy_X8_clamp wd_X8_clamp rfl rfl rfl ⟨Nat.le_of_ble_eq_true rfl, Nat.le_of_ble_eq_true rfl⟩ (Nat.le_of_ble_eq_true rfl) ⟨Nat.zero_le _, Nat.zero_le _⟩ dL_act_128 (fun H locs hP hS => ?_)
      cases h
      exact mt_i hC hr hlk K hP hS dL_act_131
  replace h := mc_ie h c51
  by_cases c63 : r1 = 4
  · replace h := mc_it h c63
    refine lv_tableIn (off := 108) (tgt := 114) hx hb dL_act_6 (by rw [c63]; decide) (by rw [c63]; decide) (by rw [c63]; decide) (by decide) ?_
    refine lv_aload_n hx hb dL_act_114 rfl (lv_at hl 0 rfl) ?_
    refine lv_iload_n hx hb dL_act_115 rfl (lv_at hl 2 rfl) ?_
    refine lv_iconst (v := 3) hx hb dL_act_116 (by decide) ?_
    obtain ⟨r64, e65, h⟩ := mc_ob_e h
    refine mg_Si (As := [.int v2, .int 3]) (rest := [.ref (w.2.2.1 144)]) (ct_L_low l (w := w) (I := I) (R := R) e65) C K hP hS hl.1 ml_L_68 wy_L_low wd_L_low rfl rfl rfl ⟨Nat.le_of_ble_eq_true rfl, Nat.le_of_ble_eq_true rfl⟩ (Nat.le_of_ble_eq_true rfl) ⟨Nat.zero_le _, Nat.zero_le _⟩ dL_act_117 (fun H locs hP hS => ?_)
    refine lv_if_le (tgt := 127) hx hb dL_act_120 (by decide) (fun c66 => ?_) (fun c66 => ?_)
    · replace h := mc_it h c66
      refine lv_iconst (v := 0) hx hb dL_act_127 (by decide) ?_
      obtain ⟨I67, R68, r69, e70, h⟩ := mc_ob3_e h
      refine mg_Vi (As := [.int 0]) (rest := []) (ct_X8_clamp l (w := w) (I := I) (R := R) e70) C K hP hS hl.1 kf_144 (by decide) rfl rfl ml_L_71 wy_X8_clamp wd_X8_clamp rfl rfl rfl ⟨Nat.le_of_ble_eq_true rfl, Nat.le_of_ble_eq_true rfl⟩ (Nat.le_of_ble_eq_true rfl) ⟨Nat.zero_le _, Nat.zero_le _⟩ dL_act_128 (fun H locs hP hS => ?_)
      cases h
      exact mt_i hC hr hlk K hP hS dL_act_131
    · replace h := mc_ie h c66
      refine lv_iconst (v := 1) hx hb dL_act_123 (by decide) ?_
      refine lv_goto (tgt := 128) hx hb dL_act_124 (by decide) ?_
      obtain ⟨I71, R72, r73, e74, h⟩ := mc_ob3_e h
      refine mg_Vi (As := [.int 1]) (rest := []) (ct_X8_clamp l (w := w) (I := I) (R := R) e74) C K hP hS hl.1 kf_144 (by decide) rfl rfl ml_L_71 wy_X8_clamp wd_X8_clamp rfl rfl rfl ⟨Nat.le_of_ble_eq_true rfl, Nat.le_of_ble_eq_true rfl⟩ (Nat.le_of_ble_eq_true rfl) ⟨Nat.zero_le _, Nat.zero_le _⟩ dL_act_128 (fun H locs hP hS => ?_)
      cases h
      exact mt_i hC hr hlk K hP hS dL_act_131
  replace h := mc_ie h c63
  by_cases c75 : r1 = 5
  · replace h := mc_it h c75
    refine lv_tableIn (off := 108) (tgt := 114) hx hb dL_act_6 (by rw [c75]; decide) (by rw [c75]; decide) (by rw [c75]; decide) (by decide) ?_
    refine lv_aload_n hx hb dL_act_114 rfl (lv_at hl 0 rfl) ?_
    refine lv_iload_n hx hb dL_act_115 rfl (lv_at hl 2 rfl) ?_
    refine lv_iconst (v := 3) hx hb dL_act_116 (by decide) ?_
    obtain ⟨r76, e77, h⟩ := mc_ob_e h
    refine mg_Si (As := [.int v2, .int 3]) (rest := [.ref (w.2.2.1 144)]) (ct_L_low l (w := w) (I := I) (R := R) e77) C K hP hS hl.1 ml_L_68 wy_L_low wd_L_low rfl rfl rfl ⟨Nat.le_of_ble_eq_true rfl, Nat.le_of_ble_eq_true rfl⟩ (Nat.le_of_ble_eq_true rfl) ⟨Nat.zero_le _, Nat.zero_le _⟩ dL_act_117 (fun H locs hP hS => ?_)
    refine lv_if_le (tgt := 127) hx hb dL_act_120 (by decide) (fun c78 => ?_) (fun c78 => ?_)
    · replace h := mc_it h c78
      refine lv_iconst (v := 0) hx hb dL_act_127 (by decide) ?_
      obtain ⟨I79, R80, r81, e82, h⟩ := mc_ob3_e h
      refine mg_Vi (As := [.int 0]) (rest := []) (ct_X8_clamp l (w := w) (I := I) (R := R) e82) C K hP hS hl.1 kf_144 (by decide) rfl rfl ml_L_71 wy_X8_clamp wd_X8_clamp rfl rfl rfl ⟨Nat.le_of_ble_eq_true rfl, Nat.le_of_ble_eq_true rfl⟩ (Nat.le_of_ble_eq_true rfl) ⟨Nat.zero_le _, Nat.zero_le _⟩ dL_act_128 (fun H locs hP hS => ?_)
      cases h
      exact mt_i hC hr hlk K hP hS dL_act_131
    · replace h := mc_ie h c78
      refine lv_iconst (v := 1) hx hb dL_act_123 (by decide) ?_
      refine lv_goto (tgt := 128) hx hb dL_act_124 (by decide) ?_
      obtain ⟨I83, R84, r85, e86, h⟩ := mc_ob3_e h
      refine mg_Vi (As := [.int 1]) (rest := []) (ct_X8_clamp l (w := w) (I := I) (R := R) e86) C K hP hS hl.1 kf_144 (by decide) rfl rfl ml_L_71 wy_X8_clamp wd_X8_clamp rfl rfl rfl ⟨Nat.le_of_ble_eq_true rfl, Nat.le_of_ble_eq_true rfl⟩ (Nat.le_of_ble_eq_true rfl) ⟨Nat.zero_le _, Nat.zero_le _⟩ dL_act_128 (fun H locs hP hS => ?_)
      cases h
      exact mt_i hC hr hlk K hP hS dL_act_131
  replace h := mc_ie h c75
  by_cases c87 : r1 = 6
  · replace h := mc_it h c87
    refine lv_tableIn (off := 108) (tgt := 114) hx hb dL_act_6 (by rw [c87]; decide) (by rw [c87]; decide) (by rw [c87]; decide) (by decide) ?_
    refine lv_aload_n hx hb dL_act_114 rfl (lv_at hl 0 rfl) ?_
    refine lv_iload_n hx hb dL_act_115 rfl (lv_at hl 2 rfl) ?_
    refine lv_iconst (v := 3) hx hb dL_act_116 (by decide) ?_
    obtain ⟨r88, e89, h⟩ := mc_ob_e h
    refine mg_Si (As := [.int v2, .int 3]) (rest := [.ref (w.2.2.1 144)]) (ct_L_low l (w := w) (I := I) (R := R) e89) C K hP hS hl.1 ml_L_68 wy_L_low wd_L_low rfl rfl rfl ⟨Nat.le_of_ble_eq_true rfl, Nat.le_of_ble_eq_true rfl⟩ (Nat.le_of_ble_eq_true rfl) ⟨Nat.zero_le _, Nat.zero_le _⟩ dL_act_117 (fun H locs hP hS => ?_)
    refine lv_if_le (tgt := 127) hx hb dL_act_120 (by decide) (fun c90 => ?_) (fun c90 => ?_)
    · replace h := mc_it h c90
      refine lv_iconst (v := 0) hx hb dL_act_127 (by decide) ?_
      obtain ⟨I91, R92, r93, e94, h⟩ := mc_ob3_e h
      refine mg_Vi (As := [.int 0]) (rest := []) (ct_X8_clamp l (w := w) (I := I) (R := R) e94) C K hP hS hl.1 kf_144 (by decide) rfl rfl ml_L_71 wy_X8_clamp wd_X8_clamp rfl rfl rfl ⟨Nat.le_of_ble_eq_true rfl, Nat.le_of_ble_eq_true rfl⟩ (Nat.le_of_ble_eq_true rfl) ⟨Nat.zero_le _, Nat.zero_le _⟩ dL_act_128 (fun H locs hP hS => ?_)
      cases h
      exact mt_i hC hr hlk K hP hS dL_act_131
    · replace h := mc_ie h c90
      refine lv_iconst (v := 1) hx hb dL_act_123 (by decide) ?_
      refine lv_goto (tgt := 128) hx hb dL_act_124 (by decide) ?_
      obtain ⟨I95, R96, r97, e98, h⟩ := mc_ob3_e h
      refine mg_Vi (As := [.int 1]) (rest := []) (ct_X8_clamp l (w := w) (I := I) (R := R) e98) C K hP hS hl.1 kf_144 (by decide) rfl rfl ml_L_71 wy_X8_clamp wd_X8_clamp rfl rfl rfl ⟨Nat.le_of_ble_eq_true rfl, Nat.le_of_ble_eq_true rfl⟩ (Nat.le_of_ble_eq_true rfl) ⟨Nat.zero_le _, Nat.zero_le _⟩ dL_act_128 (fun H locs hP hS => ?_)
      cases h
      exact mt_i hC hr hlk K hP hS dL_act_131
  replace h := mc_ie h c87
  by_cases c99 : r1 = 7
  · replace h := mc_it h c99
    refine lv_tableIn (off := 126) (tgt := 132) hx hb dL_act_6 (by rw [c99]; decide) (by rw [c99]; decide) (by rw [c99]; decide) (by decide) ?_
    refine lv_aload_n hx hb dL_act_132 rfl (lv_at hl 0 rfl) ?_
    obtain ⟨I100, R101, r102, e103, h⟩ := mc_ob3_e h
    refine mg_Vi (As := []) (rest := []) (ct_X8_send l (w := w) (I := I) (R := R) e103) C K hP hS hl.1 kf_144 (by decide) rfl rfl ml_L_75 wy_X8_send wd_X8_send rfl rfl rfl ⟨Nat.le_of_ble_eq_true rfl, Nat.le_of_ble_eq_true rfl⟩ (Nat.le_of_ble_eq_true rfl) ⟨Nat.zero_le _, Nat.zero_le _⟩ dL_act_133 (fun H locs hP hS => ?_)
    cases h
    exact mt_i hC hr hlk K hP hS dL_act_136
  replace h := mc_ie h c99
  by_cases c104 : r1 = 8
  · replace h := mc_it h c104
    refine lv_tableIn (off := 126) (tgt := 132) hx hb dL_act_6 (by rw [c104]; decide) (by rw [c104]; decide) (by rw [c104]; decide) (by decide) ?_
    refine lv_aload_n hx hb dL_act_132 rfl (lv_at hl 0 rfl) ?_
    obtain ⟨I105, R106, r107, e108, h⟩ := mc_ob3_e h
    refine mg_Vi (As := []) (rest := []) (ct_X8_send l (w := w) (I := I) (R := R) e108) C K hP hS hl.1 kf_144 (by decide) rfl rfl ml_L_75 wy_X8_send wd_X8_send rfl rfl rfl ⟨Nat.le_of_ble_eq_true rfl, Nat.le_of_ble_eq_true rfl⟩ (Nat.le_of_ble_eq_true rfl) ⟨Nat.zero_le _, Nat.zero_le _⟩ dL_act_133 (fun H locs hP hS => ?_)
    cases h
    exact mt_i hC hr hlk K hP hS dL_act_136
  replace h := mc_ie h c104
  by_cases c109 : r1 = 9
  · replace h := mc_it h c109
    refine lv_tableIn (off := 126) (tgt := 132) hx hb dL_act_6 (by rw [c109]; decide) (by rw [c109]; decide) (by rw [c109]; decide) (by decide) ?_
    refine lv_aload_n hx hb dL_act_132 rfl (lv_at hl 0 rfl) ?_
    obtain ⟨I110, R111, r112, e113, h⟩ := mc_ob3_e h
    refine mg_Vi (As := []) (rest := []) (ct_X8_send l (w := w) (I := I) (R := R) e113) C K hP hS hl.1 kf_144 (by decide) rfl rfl ml_L_75 wy_X8_send wd_X8_send rfl rfl rfl ⟨Nat.le_of_ble_eq_true rfl, Nat.le_of_ble_eq_true rfl⟩ (Nat.le_of_ble_eq_true rfl) ⟨Nat.zero_le _, Nat.zero_le _⟩ dL_act_133 (fun H locs hP hS => ?_)
    cases h
    exact mt_i hC hr hlk K hP hS dL_act_136
  replace h := mc_ie h c109
  by_cases c114 : r1 = 10
  · replace h := mc_it h c114
    refine lv_tableIn (off := 131) (tgt := 137) hx hb dL_act_6 (by rw [c114]; decide) (by rw [c114]; decide) (by rw [c114]; decide) (by decide) ?_
    refine lv_aload_n hx hb dL_act_137 rfl (lv_at hl 0 rfl) ?_
    refine lv_iload_n hx hb dL_act_138 rfl (lv_at hl 2 rfl) ?_
    refine lv_bipush (v := 7) hx hb dL_act_139 (by decide) ?_
    obtain ⟨r115, e116, h⟩ := mc_ob_e h
    refine mg_Si (As := [.int v2, .int 7]) (rest := [.ref (w.2.2.1 144)]) (ct_L_low l (w := w) (I := I) (R := R) e116) C K hP hS hl.1 ml_L_68 wy_L_low wd_L_low rfl rfl rfl ⟨Nat.le_of_ble_eq_true rfl, Nat.le_of_ble_eq_true rfl⟩ (Nat.le_of_ble_eq_true rfl) ⟨Nat.zero_le _, Nat.zero_le _⟩ dL_act_141 (fun H locs hP hS => ?_)
    obtain ⟨I117, R118, r119, e120, h⟩ := mc_ob3_e h
    refine mg_Vi (As := [.int r115]) (rest := []) (ct_X8_setSlope l (w := w) (I := I) (R := R) e120) C K hP hS hl.1 kf_144 (by decide) rfl rfl ml_L_78 wy_X8_setSlope wd_X8_setSlope rfl rfl rfl ⟨Nat.le_of_ble_eq_true rfl, Nat.le_of_ble_eq_true rfl⟩ (Nat.le_of_ble_eq_true rfl) ⟨Nat.zero_le _, Nat.zero_le _⟩ dL_act_144 (fun H locs hP hS => ?_)
    cases h
    exact mt_i hC hr hlk K hP hS dL_act_147
  replace h := mc_ie h c114
  by_cases c121 : r1 = 11
  · replace h := mc_it h c121
    refine lv_tableIn (off := 142) (tgt := 148) hx hb dL_act_6 (by rw [c121]; decide) (by rw [c121]; decide) (by rw [c121]; decide) (by decide) ?_
    refine lv_iload_n hx hb dL_act_148 rfl (lv_at hl 1 rfl) ?_
    refine lv_iconst (v := 4) hx hb dL_act_149 (by decide) ?_
    refine lv_ishr hx hb dL_act_150 ?_
    refine lv_iconst (v := 2) hx hb dL_act_151 (by decide) ?_
    obtain ⟨r122, e123, h⟩ := mc_ob_e h
    refine mg_Si (As := [.int (v1 >>> (4 &&& 31)), .int 2]) (rest := []) (ct_L_low l (w := w) (I := I) (R := R) e123) C K hP hS hl.1 ml_L_68 wy_L_low wd_L_low rfl rfl rfl ⟨Nat.le_of_ble_eq_true rfl, Nat.le_of_ble_eq_true rfl⟩ (Nat.le_of_ble_eq_true rfl) ⟨Nat.zero_le _, Nat.zero_le _⟩ dL_act_152 (fun H locs hP hS => ?_)
    refine lv_if_ne (tgt := 178) hx hb dL_act_155 (by decide) (fun c124 => ?_) (fun c124 => ?_)
    · replace h := mc_ie h c124
      refine lv_aload_n hx hb dL_act_178 rfl (lv_at hl 0 rfl) ?_
      refine lv_iload_n hx hb dL_act_179 rfl (lv_at hl 2 rfl) ?_
      refine lv_iconst (v := 4) hx hb dL_act_180 (by decide) ?_
      obtain ⟨r125, e126, h⟩ := mc_ob_e h
      refine mg_Si (As := [.int v2, .int 4]) (rest := [.ref (w.2.2.1 144)]) (ct_L_low l (w := w) (I := I) (R := R) e126) C K hP hS hl.1 ml_L_68 wy_L_low wd_L_low rfl rfl rfl ⟨Nat.le_of_ble_eq_true rfl, Nat.le_of_ble_eq_true rfl⟩ (Nat.le_of_ble_eq_true rfl) ⟨Nat.zero_le _, Nat.zero_le _⟩ dL_act_181 (fun H locs hP hS => ?_)
      obtain ⟨I127, R128, r129, e130, h⟩ := mc_ob3_e h
      refine mg_Vi (As := [.int r125]) (rest := []) (ct_X8_takeOff l (w := w) (I := I) (R := R) e130) C K hP hS hl.1 kf_144 (by decide) rfl rfl ml_L_84 wy_X8_takeOff wd_X8_takeOff rfl rfl rfl ⟨Nat.le_of_ble_eq_true rfl, Nat.le_of_ble_eq_true rfl⟩ (Nat.le_of_ble_eq_true rfl) ⟨Nat.zero_le _, Nat.zero_le _⟩ dL_act_184 (fun H locs hP hS => ?_)
      cases h
      exact mt_i hC hr hlk K hP hS dL_act_187
    · replace h := mc_it h c124
      refine lv_aload_n hx hb dL_act_158 rfl (lv_at hl 0 rfl) ?_
      refine lv_iload_n hx hb dL_act_159 rfl (lv_at hl 2 rfl) ?_
      refine lv_iconst (v := 2) hx hb dL_act_160 (by decide) ?_
      obtain ⟨r131, e132, h⟩ := mc_ob_e h
      refine mg_Si (As := [.int v2, .int 2]) (rest := [.ref (w.2.2.1 144)]) (ct_L_low l (w := w) (I := I) (R := R) e132) C K hP hS hl.1 ml_L_68 wy_L_low wd_L_low rfl rfl rfl ⟨Nat.le_of_ble_eq_true rfl, Nat.le_of_ble_eq_true rfl⟩ (Nat.le_of_ble_eq_true rfl) ⟨Nat.zero_le _, Nat.zero_le _⟩ dL_act_161 (fun H locs hP hS => ?_)
      refine lv_if_ne (tgt := 171) hx hb dL_act_164 (by decide) (fun c133 => ?_) (fun c133 => ?_)
      · replace h := mc_ie h c133
        refine lv_iconst (v := 0) hx hb dL_act_171 (by decide) ?_
        obtain ⟨I134, R135, r136, e137, h⟩ := mc_ob3_e h
        refine mg_Vi (As := [.int 0]) (rest := []) (ct_X8_weight l (w := w) (I := I) (R := R) e137) C K hP hS hl.1 kf_144 (by decide) rfl rfl ml_L_81 wy_X8_weight wd_X8_weight rfl rfl rfl ⟨Nat.le_of_ble_eq_true rfl, Nat.le_of_ble_eq_true rfl⟩ (Nat.le_of_ble_eq_true rfl) ⟨Nat.zero_le _, Nat.zero_le _⟩ dL_act_172 (fun H locs hP hS => ?_)
        refine lv_goto (tgt := 187) hx hb dL_act_175 (by decide) ?_
        cases h
        exact mt_i hC hr hlk K hP hS dL_act_187
      · replace h := mc_it h c133
        refine lv_iconst (v := 1) hx hb dL_act_167 (by decide) ?_
        refine lv_goto (tgt := 172) hx hb dL_act_168 (by decide) ?_
        obtain ⟨I138, R139, r140, e141, h⟩ := mc_ob3_e h
        refine mg_Vi (As := [.int 1]) (rest := []) (ct_X8_weight l (w := w) (I := I) (R := R) e141) C K hP hS hl.1 kf_144 (by decide) rfl rfl ml_L_81 wy_X8_weight wd_X8_weight rfl rfl rfl ⟨Nat.le_of_ble_eq_true rfl, Nat.le_of_ble_eq_true rfl⟩ (Nat.le_of_ble_eq_true rfl) ⟨Nat.zero_le _, Nat.zero_le _⟩ dL_act_172 (fun H locs hP hS => ?_)
        refine lv_goto (tgt := 187) hx hb dL_act_175 (by decide) ?_
        cases h
        exact mt_i hC hr hlk K hP hS dL_act_187
  replace h := mc_ie h c121
  by_cases c142 : r1 = 12
  · replace h := mc_it h c142
    refine lv_tableIn (off := 182) (tgt := 188) hx hb dL_act_6 (by rw [c142]; decide) (by rw [c142]; decide) (by rw [c142]; decide) (by decide) ?_
    refine lv_iload_n hx hb dL_act_188 rfl (lv_at hl 1 rfl) ?_
    refine lv_iconst (v := 4) hx hb dL_act_189 (by decide) ?_
    refine lv_ishr hx hb dL_act_190 ?_
    refine lv_iconst (v := 2) hx hb dL_act_191 (by decide) ?_
    obtain ⟨r143, e144, h⟩ := mc_ob_e h
    refine mg_Si (As := [.int (v1 >>> (4 &&& 31)), .int 2]) (rest := []) (ct_L_low l (w := w) (I := I) (R := R) e144) C K hP hS hl.1 ml_L_68 wy_L_low wd_L_low rfl rfl rfl ⟨Nat.le_of_ble_eq_true rfl, Nat.le_of_ble_eq_true rfl⟩ (Nat.le_of_ble_eq_true rfl) ⟨Nat.zero_le _, Nat.zero_le _⟩ dL_act_192 (fun H locs hP hS => ?_)
    refine lv_if_ne (tgt := 232) hx hb dL_act_195 (by decide) (fun c145 => ?_) (fun c145 => ?_)
    · replace h := mc_ie h c145
      refine lv_aload_n hx hb dL_act_232 rfl (lv_at hl 0 rfl) ?_
      refine lv_iload_n hx hb dL_act_233 rfl (lv_at hl 1 rfl) ?_
      refine lv_iconst (v := 5) hx hb dL_act_234 (by decide) ?_
      refine lv_ishr hx hb dL_act_235 ?_
      refine lv_iconst (v := 3) hx hb dL_act_236 (by decide) ?_
      obtain ⟨r146, e147, h⟩ := mc_ob_e h
      refine mg_Si (As := [.int (v1 >>> (5 &&& 31)), .int 3]) (rest := [.ref (w.2.2.1 144)]) (ct_L_low l (w := w) (I := I) (R := R) e147) C K hP hS hl.1 ml_L_68 wy_L_low wd_L_low rfl rfl rfl ⟨Nat.le_of_ble_eq_true rfl, Nat.le_of_ble_eq_true rfl⟩ (Nat.le_of_ble_eq_true rfl) ⟨Nat.zero_le _, Nat.zero_le _⟩ dL_act_237 (fun H locs hP hS => ?_)
      refine lv_iload_n hx hb dL_act_240 rfl (lv_at hl 2 rfl) ?_
      refine lv_bipush (v := 90) hx hb dL_act_241 (by decide) ?_
      obtain ⟨r148, e149, h⟩ := mc_ob_e h
      refine mg_Si (As := [.int v2, .int 90]) (rest := [.int r146, .ref (w.2.2.1 144)]) (ct_L_low l (w := w) (I := I) (R := R) e149) C K hP hS hl.1 ml_L_68 wy_L_low wd_L_low rfl rfl rfl ⟨Nat.le_of_ble_eq_true rfl, Nat.le_of_ble_eq_true rfl⟩ (Nat.le_of_ble_eq_true rfl) ⟨Nat.zero_le _, Nat.zero_le _⟩ dL_act_243 (fun H locs hP hS => ?_)
      obtain ⟨I150, R151, r152, e153, h⟩ := mc_ob3_e h
      refine mg_Vi (As := [.int r146, .int r148]) (rest := []) (ct_X8_set l (w := w) (I := I) (R := R) e153) C K hP hS hl.1 kf_144 (by decide) rfl rfl ml_L_91 wy_X8_set wd_X8_set rfl rfl rfl ⟨Nat.le_of_ble_eq_true rfl, Nat.le_of_ble_eq_true rfl⟩ (Nat.le_of_ble_eq_true rfl) ⟨Nat.zero_le _, Nat.zero_le _⟩ dL_act_246 (fun H locs hP hS => ?_)
      cases h
      exact mt_i hC hr hlk K hP hS dL_act_249
    · replace h := mc_it h c145
      refine lv_aload_n hx hb dL_act_198 rfl (lv_at hl 0 rfl) ?_
      refine lv_iload_n hx hb dL_act_199 rfl (lv_at hl 2 rfl) ?_
      refine lv_bipush (v := 11) hx hb dL_act_200 (by decide) ?_
      obtain ⟨r154, e155, h⟩ := mc_ob_e h
      refine mg_Si (As := [.int v2, .int 11]) (rest := [.ref (w.2.2.1 144)]) (ct_L_low l (w := w) (I := I) (R := R) e155) C K hP hS hl.1 ml_L_68 wy_L_low wd_L_low rfl rfl rfl ⟨Nat.le_of_ble_eq_true rfl, Nat.le_of_ble_eq_true rfl⟩ (Nat.le_of_ble_eq_true rfl) ⟨Nat.zero_le _, Nat.zero_le _⟩ dL_act_202 (fun H locs hP hS => ?_)
      refine lv_iload_n hx hb dL_act_205 rfl (lv_at hl 2 rfl) ?_
      refine lv_iconst (v := 4) hx hb dL_act_206 (by decide) ?_
      refine lv_ishr hx hb dL_act_207 ?_
      refine lv_sipush (v := 310) hx hb dL_act_208 (by decide) ?_
      obtain ⟨r156, e157, h⟩ := mc_ob_e h
      refine mg_Si (As := [.int (v2 >>> (4 &&& 31)), .int 310]) (rest := [.int r154, .ref (w.2.2.1 144)]) (ct_L_low l (w := w) (I := I) (R := R) e157) C K hP hS hl.1 ml_L_68 wy_L_low wd_L_low rfl rfl rfl ⟨Nat.le_of_ble_eq_true rfl, Nat.le_of_ble_eq_true rfl⟩ (Nat.le_of_ble_eq_true rfl) ⟨Nat.zero_le _, Nat.zero_le _⟩ dL_act_211 (fun H locs hP hS => ?_)
      refine lv_bipush (v := 20) hx hb dL_act_214 (by decide) ?_
      refine lv_isub hx hb dL_act_216 ?_
      refine lv_iload_n hx hb dL_act_217 rfl (lv_at hl 2 rfl) ?_
      refine lv_iconst (v := 5) hx hb dL_act_218 (by decide) ?_
      refine lv_ishr hx hb dL_act_219 ?_
      refine lv_sipush (v := 421) hx hb dL_act_220 (by decide) ?_
      obtain ⟨r158, e159, h⟩ := mc_ob_e h
      refine mg_Si (As := [.int (v2 >>> (5 &&& 31)), .int 421]) (rest := [.int (r156 - 20), .int r154, .ref (w.2.2.1 144)]) (ct_L_low l (w := w) (I := I) (R := R) e159) C K hP hS hl.1 ml_L_68 wy_L_low wd_L_low rfl rfl rfl ⟨Nat.le_of_ble_eq_true rfl, Nat.le_of_ble_eq_true rfl⟩ (Nat.le_of_ble_eq_true rfl) ⟨Nat.zero_le _, Nat.zero_le _⟩ dL_act_223 (fun H locs hP hS => ?_)
      obtain ⟨I160, R161, r162, e163, h⟩ := mc_ob3_e h
      refine mg_Vi (As := [.int r154, .int (r156 - 20), .int r158]) (rest := []) (ct_X8_setWater l (w := w) (I := I) (R := R) e163) C K hP hS hl.1 kf_144 (by decide) rfl rfl ml_L_87 wy_X8_setWater wd_X8_setWater rfl rfl rfl ⟨Nat.le_of_ble_eq_true rfl, Nat.le_of_ble_eq_true rfl⟩ (Nat.le_of_ble_eq_true rfl) ⟨Nat.zero_le _, Nat.zero_le _⟩ dL_act_226 (fun H locs hP hS => ?_)
      refine lv_goto (tgt := 249) hx hb dL_act_229 (by decide) ?_
      cases h
      exact mt_i hC hr hlk K hP hS dL_act_249
  replace h := mc_ie h c142
  refine lv_tableOut (tgt := 250) hx hb dL_act_6 (mc_sw (lo := 0) (hi := 12) (fun v h1 h2 => by rcases (show v = 0 ∨ v = 1 ∨ v = 2 ∨ v = 3 ∨ v = 4 ∨ v = 5 ∨ v = 6 ∨ v = 7 ∨ v = 8 ∨ v = 9 ∨ v = 10 ∨ v = 11 ∨ v = 12 by omega) with rfl | rfl | rfl | rfl | rfl | rfl | rfl | rfl | rfl | rfl | rfl | rfl | rfl <;> first | exact ⟨0, by decide, c3⟩ | exact ⟨1, by decide, c19⟩ | exact ⟨2, by decide, c35⟩ | exact ⟨3, by decide, c51⟩ | exact ⟨4, by decide, c63⟩ | exact ⟨5, by decide, c75⟩ | exact ⟨6, by decide, c87⟩ | exact ⟨7, by decide, c99⟩ | exact ⟨8, by decide, c104⟩ | exact ⟨9, by decide, c109⟩ | exact ⟨10, by decide, c114⟩ | exact ⟨11, by decide, c121⟩ | exact ⟨12, by decide, c142⟩)) (by decide) ?_
  refine lv_aload_n hx hb dL_act_250 rfl (lv_at hl 0 rfl) ?_
  refine lv_iconst (v := 1) hx hb dL_act_251 (by decide) ?_
  refine lv_iload_n hx hb dL_act_252 rfl (lv_at hl 2 rfl) ?_
  refine lv_bipush (v := 30) hx hb dL_act_253 (by decide) ?_
  obtain ⟨r164, e165, h⟩ := mc_ob_e h
  refine mg_Si (As := [.int v2, .int 30]) (rest := [.int 1, .ref (w.2.2.1 144)]) (ct_L_low l (w := w) (I := I) (R := R) e165) C K hP hS hl.1 ml_L_68 wy_L_low wd_L_low rfl rfl rfl ⟨Nat.le_of_ble_eq_true rfl, Nat.le_of_ble_eq_true rfl⟩ (Nat.le_of_ble_eq_true rfl) ⟨Nat.zero_le _, Nat.zero_le _⟩ dL_act_255 (fun H locs hP hS => ?_)
  refine lv_iadd hx hb dL_act_258 ?_
  obtain ⟨I166, R167, r168, e169, h⟩ := mc_ob3_e h
  refine mg_Vi (As := [.int (1 + r164)]) (rest := []) (ct_X8_pass l (w := w) (I := I) (R := R) e169) C K hP hS hl.1 kf_144 (by decide) rfl rfl ml_L_56 wy_X8_pass wd_X8_pass rfl rfl rfl ⟨Nat.le_of_ble_eq_true rfl, Nat.le_of_ble_eq_true rfl⟩ (Nat.le_of_ble_eq_true rfl) ⟨Nat.zero_le _, Nat.zero_le _⟩ dL_act_259 (fun H locs hP hS => ?_)
  cases h
  exact mt_i hC hr hlk K hP hS dL_act_262

set_option maxHeartbeats 4000000 in
set_option maxRecDepth 100000 in
theorem bk_L_law_J314 {p : Program} {e : Env} {s : State} {m : MethodId} {below : List Frame} {meth : Method} {c : Code} (l : Launch) {b L : Nat} {xs : Nat → Int32} (hL : L ≤ 260) (C : CallFix p m c code 10 s #[Value.ref b] mc_big RL) (hX : va_X b L xs s s.heap) (hbl : b < s.heap.size) {w : mc_w} (K : mc_K mc_k 152 w s) (hA : ∀ i, i < 152 → s.heap.size ≤ w.2.2.1 i) (hr : meth.sig.returnType = ret) (hlk : meth.locks = false) {F : Nat} : ∀ (I : Nat → Nat → Int32) (R : Nat → Nat → Option Nat) (v2 : Int32), mi_L_law_J314 L xs F I R v2 = some 1 → ∀ {H : Heap} {locs : List Loc} {ls : Array Slot}, mc_P mc_k 152 w I R H → va_S (fun q => s.heap.size ≤ q) s.heap H locs → lv_has ls 10 [(1, .ref (w.2.2.1 144)), (2, .int v2)] → W p l e room_1 s m #[Value.ref b] below meth c H locs 152 1579 (lw_Z below #[Value.ref b] s) (F0 m 314 ls []) := by
  intro I R v2 h  H locs ls hP hS hl
  have hx := C.1
  have hb := C.2.1
  have hC := And.intro C.1 C.2.1
  unfold mi_L_law_J314 at h
  refine lv_iload_n hx hb dL_law_314 rfl (lv_at hl 1 rfl) ?_
  refine lv_if_eq (tgt := 329) hx hb dL_law_315 (by decide) (fun c5 => ?_) (fun c5 => ?_)
  · replace h := mc_it h c5
    refine lv_iconst (v := 0) hx hb dL_law_329 (by decide) ?_
    exact absurd (Option.some.inj h) (by decide)
  · replace h := mc_ie h c5
    refine lv_aload_n hx hb dL_law_318 rfl (lv_at hl 0 rfl) ?_
    obtain ⟨r6, e7, h⟩ := mc_ob_e h
    refine ml_Sz (As := [.ref (w.2.2.1 144)]) (rest := []) (ct_L_hangs l (w := w) (I := I) (R := R) e7) C K hP hA hS hl.1 ml_L_59 wy_L_hangs wd_L_hangs rfl rfl rfl ⟨Nat.le_of_ble_eq_true rfl, Nat.le_of_ble_eq_true rfl⟩ (Nat.le_of_ble_eq_true rfl) ⟨Nat.le_of_ble_eq_true rfl, Nat.le_of_ble_eq_true rfl⟩ dL_law_319 (fun H locs hP z8 hS => ?_)
    refine lv_if_eq (tgt := 329) hx hb dL_law_322 (by decide) (fun c9 => ?_) (fun c9 => ?_)
    · replace h := mc_it h c9
      refine lv_iconst (v := 0) hx hb dL_law_329 (by decide) ?_
      exact absurd (Option.some.inj h) (by decide)
    · replace h := mc_ie h c9
      refine lv_iconst (v := 1) hx hb dL_law_325 (by decide) ?_
      refine lv_goto (tgt := 330) hx hb dL_law_326 (by decide) ?_
      refine va_forget (fun q hq => hS.2.2 q hq) ?_
      refine W.widen (k := 600000) (n := 7302250) (Nat.le_of_ble_eq_true rfl) (Nat.le_of_ble_eq_true rfl) ?_
      exact lw_ret hx hb hr hlk dL_law_330
set_option maxHeartbeats 4000000 in
set_option maxRecDepth 100000 in
theorem bk_L_law_J275 {p : Program} {e : Env} {s : State} {m : MethodId} {below : List Frame} {meth : Method} {c : Code} (l : Launch) {b L : Nat} {xs : Nat → Int32} (hL : L ≤ 260) (C : CallFix p m c code 10 s #[Value.ref b] mc_big RL) (hX : va_X b L xs s s.heap) (hbl : b < s.heap.size) {w : mc_w} (K : mc_K mc_k 152 w s) (hA : ∀ i, i < 152 → s.heap.size ≤ w.2.2.1 i) (hr : meth.sig.returnType = ret) (hlk : meth.locks = false) {F : Nat} {k15 : (Nat → Nat → Int32) → (Nat → Nat → Option Nat) → Int32 → Int32 → Option Int32} (hk15 : ∀ (I : Nat → Nat → Int32) (R : Nat → Nat → Option Nat) (v2 : Int32) (v3 : Int32), k15 I R v2 v3 = some 1 → ∀ {H : Heap} {locs : List Loc} {ls : Array Slot}, mc_P mc_k 152 w I R H → va_S (fun q => s.heap.size ≤ q) s.heap H locs → lv_has ls 10 [(0, .ref b), (1, .ref (w.2.2.1 144)), (2, .int v2), (3, .int v3)] → W p l e room_1 s m #[Value.ref b] below meth c H locs 152 1579 (lw_Z below #[Value.ref b] s) (F0 m 15 ls [])) : ∀ (I : Nat → Nat → Int32) (R : Nat → Nat → Option Nat) (v3 : Int32) (v5 : Int32), mi_L_law_J275 k15 L xs F I R v3 v5 = some 1 → ∀ {H : Heap} {locs : List Loc} {ls : Array Slot}, mc_P mc_k 152 w I R H → va_S (fun q => s.heap.size ≤ q) s.heap H locs → lv_has ls 10 [(0, .ref b), (1, .ref (w.2.2.1 144)), (3, .int v3), (5, .int v5)] → W p l e room_1 s m #[Value.ref b] below meth c H locs 152 1579 (lw_Z below #[Value.ref b] s) (F0 m 275 ls []) := by
  intro I R v3 v5 h  H locs ls hP hS hl
  have hx := C.1
  have hb := C.2.1
  have hC := And.intro C.1 C.2.1
  unfold mi_L_law_J275 at h
  refine lv_iload_n hx hb dL_law_275 rfl (lv_at hl 2 rfl) ?_
  refine lv_iconst (v := 4) hx hb dL_law_276 (by decide) ?_
  refine lv_irem hx hb dL_law_277 (by decide) ?_
  refine lv_if_gt (tgt := 302) hx hb dL_law_278 (by decide) (fun c38 => ?_) (fun c38 => ?_)
  · replace h := mc_it h c38
    refine lv_iconst (v := 1) hx hb dL_law_302 (by decide) ?_
    refine lv_goto (tgt := 307) hx hb dL_law_303 (by decide) ?_
    refine lv_istore_n (i := 2) (lv' := [(2, .int 1), (0, .ref b), (1, .ref (w.2.2.1 144)), (3, .int v3), (5, .int v5)]) hx hb dL_law_307 rfl hl (by decide) rfl (fun ls hl => ?_)
    obtain ⟨x39, ex39, h⟩ := mc_bn_e h
    refine lv_iinc (v := x39) (lv' := [(3, .int x39), (2, .int 1), (0, .ref b), (1, .ref (w.2.2.1 144)), (5, .int v5)]) hx hb dL_law_308 hl (k := 3) rfl (by rw [ex39]; rfl) (by decide) rfl (fun ls hl => ?_)
    refine lv_goto (tgt := 15) hx hb dL_law_311 (by decide) ?_
    exact hk15 I R 1 x39 h  hP hS (lv_sub hl [2, 3, 1, 0] rfl)
  · replace h := mc_ie h c38
    refine lv_aload_n hx hb dL_law_281 rfl (lv_at hl 1 rfl) ?_
    refine lv_iload hx hb dL_law_282 (lv_at hl 3 rfl) ?_
    refine lv_iconst (v := 5) hx hb dL_law_284 (by decide) ?_
    refine lv_ishr hx hb dL_law_285 ?_
    refine lv_sipush (v := 1400) hx hb dL_law_286 (by decide) ?_
    obtain ⟨r40, e41, h⟩ := mc_ob_e h
    refine ml_Si (As := [.int (v5 >>> (5 &&& 31)), .int 1400]) (rest := [.ref (w.2.2.1 144)]) (ct_L_low l (w := w) (I := I) (R := R) e41) C K hP hA hS hl.1 ml_L_68 wy_L_low wd_L_low rfl rfl rfl ⟨Nat.le_of_ble_eq_true rfl, Nat.le_of_ble_eq_true rfl⟩ (Nat.le_of_ble_eq_true rfl) ⟨Nat.le_of_ble_eq_true rfl, Nat.le_of_ble_eq_true rfl⟩ dL_law_289 (fun H locs hP hS => ?_)
    refine lv_sipush (v := 500) hx hb dL_law_292 (by decide) ?_
    refine lv_isub hx hb dL_law_295 ?_
    obtain ⟨I42, R43, r44, e45, h⟩ := mc_ob3_e h
    refine ml_Sz (As := [.ref (w.2.2.1 144), .int (r40 - 500)]) (rest := []) (ct_L_jerks l (w := w) (I := I) (R := R) e45) C K hP hA hS hl.1 ml_L_107 wy_L_jerks wd_L_jerks rfl rfl rfl ⟨Nat.le_of_ble_eq_true rfl, Nat.le_of_ble_eq_true rfl⟩ (Nat.le_of_ble_eq_true rfl) ⟨Nat.le_of_ble_eq_true rfl, Nat.le_of_ble_eq_true rfl⟩ dL_law_296 (fun H locs hP z46 hS => ?_)
    refine lv_if_eq (tgt := 306) hx hb dL_law_299 (by decide) (fun c47 => ?_) (fun c47 => ?_)
    · replace h := mc_it h c47
      refine lv_iconst (v := 0) hx hb dL_law_306 (by decide) ?_
      refine lv_istore_n (i := 2) (lv' := [(2, .int 0), (0, .ref b), (1, .ref (w.2.2.1 144)), (3, .int v3), (5, .int v5)]) hx hb dL_law_307 rfl hl (by decide) rfl (fun ls hl => ?_)
      obtain ⟨x48, ex48, h⟩ := mc_bn_e h
      refine lv_iinc (v := x48) (lv' := [(3, .int x48), (2, .int 0), (0, .ref b), (1, .ref (w.2.2.1 144)), (5, .int v5)]) hx hb dL_law_308 hl (k := 3) rfl (by rw [ex48]; rfl) (by decide) rfl (fun ls hl => ?_)
      refine lv_goto (tgt := 15) hx hb dL_law_311 (by decide) ?_
      exact hk15 I42 R43 0 x48 h  hP hS (lv_sub hl [2, 3, 1, 0] rfl)
    · replace h := mc_ie h c47
      refine lv_iconst (v := 1) hx hb dL_law_302 (by decide) ?_
      refine lv_goto (tgt := 307) hx hb dL_law_303 (by decide) ?_
      refine lv_istore_n (i := 2) (lv' := [(2, .int 1), (0, .ref b), (1, .ref (w.2.2.1 144)), (3, .int v3), (5, .int v5)]) hx hb dL_law_307 rfl hl (by decide) rfl (fun ls hl => ?_)
      obtain ⟨x49, ex49, h⟩ := mc_bn_e h
      refine lv_iinc (v := x49) (lv' := [(3, .int x49), (2, .int 1), (0, .ref b), (1, .ref (w.2.2.1 144)), (5, .int v5)]) hx hb dL_law_308 hl (k := 3) rfl (by rw [ex49]; rfl) (by decide) rfl (fun ls hl => ?_)
      refine lv_goto (tgt := 15) hx hb dL_law_311 (by decide) ?_
      exact hk15 I42 R43 1 x49 h  hP hS (lv_sub hl [2, 3, 1, 0] rfl)
set_option maxHeartbeats 4000000 in
set_option maxRecDepth 100000 in
theorem bk_L_law_J240 {p : Program} {e : Env} {s : State} {m : MethodId} {below : List Frame} {meth : Method} {c : Code} (l : Launch) {b L : Nat} {xs : Nat → Int32} (hL : L ≤ 260) (C : CallFix p m c code 10 s #[Value.ref b] mc_big RL) (hX : va_X b L xs s s.heap) (hbl : b < s.heap.size) {w : mc_w} (K : mc_K mc_k 152 w s) (hA : ∀ i, i < 152 → s.heap.size ≤ w.2.2.1 i) (hr : meth.sig.returnType = ret) (hlk : meth.locks = false) {F : Nat} {k15 : (Nat → Nat → Int32) → (Nat → Nat → Option Nat) → Int32 → Int32 → Option Int32} (hk15 : ∀ (I : Nat → Nat → Int32) (R : Nat → Nat → Option Nat) (v2 : Int32) (v3 : Int32), k15 I R v2 v3 = some 1 → ∀ {H : Heap} {locs : List Loc} {ls : Array Slot}, mc_P mc_k 152 w I R H → va_S (fun q => s.heap.size ≤ q) s.heap H locs → lv_has ls 10 [(0, .ref b), (1, .ref (w.2.2.1 144)), (2, .int v2), (3, .int v3)] → W p l e room_1 s m #[Value.ref b] below meth c H locs 152 1579 (lw_Z below #[Value.ref b] s) (F0 m 15 ls [])) : ∀ (I : Nat → Nat → Int32) (R : Nat → Nat → Option Nat) (v2 : Int32) (v3 : Int32) (v5 : Int32), mi_L_law_J240 k15 L xs F I R v2 v3 v5 = some 1 → ∀ {H : Heap} {locs : List Loc} {ls : Array Slot}, mc_P mc_k 152 w I R H → va_S (fun q => s.heap.size ≤ q) s.heap H locs → lv_has ls 10 [(0, .ref b), (1, .ref (w.2.2.1 144)), (2, .int v2), (3, .int v3), (5, .int v5)] → W p l e room_1 s m #[Value.ref b] below meth c H locs 152 1579 (lw_Z below #[Value.ref b] s) (F0 m 240 ls []) := by
  intro I R v2 v3 v5 h  H locs ls hP hS hl
  have hx := C.1
  have hb := C.2.1
  have hC := And.intro C.1 C.2.1
  unfold mi_L_law_J240 at h
  refine lv_iload_n hx hb dL_law_240 rfl (lv_at hl 2 rfl) ?_
  refine lv_if_eq (tgt := 306) hx hb dL_law_241 (by decide) (fun c30 => ?_) (fun c30 => ?_)
  · replace h := mc_it h c30
    refine lv_iconst (v := 0) hx hb dL_law_306 (by decide) ?_
    refine lv_istore_n (i := 2) (lv' := [(2, .int 0), (0, .ref b), (1, .ref (w.2.2.1 144)), (3, .int v3), (5, .int v5)]) hx hb dL_law_307 rfl hl (by decide) rfl (fun ls hl => ?_)
    obtain ⟨x31, ex31, h⟩ := mc_bn_e h
    refine lv_iinc (v := x31) (lv' := [(3, .int x31), (2, .int 0), (0, .ref b), (1, .ref (w.2.2.1 144)), (5, .int v5)]) hx hb dL_law_308 hl (k := 3) rfl (by rw [ex31]; rfl) (by decide) rfl (fun ls hl => ?_)
    refine lv_goto (tgt := 15) hx hb dL_law_311 (by decide) ?_
    exact hk15 I R 0 x31 h  hP hS (lv_sub hl [2, 3, 1, 0] rfl)
  · replace h := mc_ie h c30
    refine lv_aload_n hx hb dL_law_244 rfl (lv_at hl 1 rfl) ?_
    obtain ⟨r32, e33, h⟩ := mc_ob_e h
    refine ml_Sz (As := [.ref (w.2.2.1 144)]) (rest := []) (ct_L_hangs l (w := w) (I := I) (R := R) e33) C K hP hA hS hl.1 ml_L_59 wy_L_hangs wd_L_hangs rfl rfl rfl ⟨Nat.le_of_ble_eq_true rfl, Nat.le_of_ble_eq_true rfl⟩ (Nat.le_of_ble_eq_true rfl) ⟨Nat.le_of_ble_eq_true rfl, Nat.le_of_ble_eq_true rfl⟩ dL_law_245 (fun H locs hP z34 hS => ?_)
    refine lv_if_eq (tgt := 306) hx hb dL_law_248 (by decide) (fun c35 => ?_) (fun c35 => ?_)
    · replace h := mc_it h c35
      refine lv_iconst (v := 0) hx hb dL_law_306 (by decide) ?_
      refine lv_istore_n (i := 2) (lv' := [(2, .int 0), (0, .ref b), (1, .ref (w.2.2.1 144)), (3, .int v3), (5, .int v5)]) hx hb dL_law_307 rfl hl (by decide) rfl (fun ls hl => ?_)
      obtain ⟨x36, ex36, h⟩ := mc_bn_e h
      refine lv_iinc (v := x36) (lv' := [(3, .int x36), (2, .int 0), (0, .ref b), (1, .ref (w.2.2.1 144)), (5, .int v5)]) hx hb dL_law_308 hl (k := 3) rfl (by rw [ex36]; rfl) (by decide) rfl (fun ls hl => ?_)
      refine lv_goto (tgt := 15) hx hb dL_law_311 (by decide) ?_
      exact hk15 I R 0 x36 h  hP hS (lv_sub hl [2, 3, 1, 0] rfl)
    · replace h := mc_ie h c35
      refine lv_iload_n hx hb dL_law_251 rfl (lv_at hl 3 rfl) ?_
      refine lv_iconst (v := 3) hx hb dL_law_252 (by decide) ?_
      refine lv_irem hx hb dL_law_253 (by decide) ?_
      refine lv_if_gt (tgt := 275) hx hb dL_law_254 (by decide) (fun c37 => ?_) (fun c37 => ?_)
      · replace h := mc_it h c37
        exact bk_L_law_J275 l hL C hX hbl K hA hr hlk hk15 I R v3 v5 h  hP hS (lv_sub hl [0, 1, 3, 4] rfl)
      · replace h := mc_ie h c37
        refine lv_aload_n hx hb dL_law_257 rfl (lv_at hl 1 rfl) ?_
        refine lv_iconst (v := 1) hx hb dL_law_258 (by decide) ?_
        refine lv_iload hx hb dL_law_259 (lv_at hl 4 rfl) ?_
        refine lv_iconst (v := 2) hx hb dL_law_261 (by decide) ?_
        refine lv_ishr hx hb dL_law_262 ?_
        refine lv_bipush (v := 60) hx hb dL_law_263 (by decide) ?_
        obtain ⟨r50, e51, h⟩ := mc_ob_e h
        refine ml_Si (As := [.int (v5 >>> (2 &&& 31)), .int 60]) (rest := [.int 1, .ref (w.2.2.1 144)]) (ct_L_low l (w := w) (I := I) (R := R) e51) C K hP hA hS hl.1 ml_L_68 wy_L_low wd_L_low rfl rfl rfl ⟨Nat.le_of_ble_eq_true rfl, Nat.le_of_ble_eq_true rfl⟩ (Nat.le_of_ble_eq_true rfl) ⟨Nat.le_of_ble_eq_true rfl, Nat.le_of_ble_eq_true rfl⟩ dL_law_265 (fun H locs hP hS => ?_)
        refine lv_iadd hx hb dL_law_268 ?_
        obtain ⟨I52, R53, r54, e55, h⟩ := mc_ob3_e h
        refine ml_Sz (As := [.ref (w.2.2.1 144), .int (1 + r50)]) (rest := []) (ct_L_shuts l (w := w) (I := I) (R := R) e55) C K hP hA hS hl.1 ml_L_103 wy_L_shuts wd_L_shuts rfl rfl rfl ⟨Nat.le_of_ble_eq_true rfl, Nat.le_of_ble_eq_true rfl⟩ (Nat.le_of_ble_eq_true rfl) ⟨Nat.le_of_ble_eq_true rfl, Nat.le_of_ble_eq_true rfl⟩ dL_law_269 (fun H locs hP z56 hS => ?_)
        refine lv_if_eq (tgt := 306) hx hb dL_law_272 (by decide) (fun c57 => ?_) (fun c57 => ?_)
        · replace h := mc_it h c57
          refine lv_iconst (v := 0) hx hb dL_law_306 (by decide) ?_
          refine lv_istore_n (i := 2) (lv' := [(2, .int 0), (0, .ref b), (1, .ref (w.2.2.1 144)), (3, .int v3), (5, .int v5)]) hx hb dL_law_307 rfl hl (by decide) rfl (fun ls hl => ?_)
          obtain ⟨x58, ex58, h⟩ := mc_bn_e h
          refine lv_iinc (v := x58) (lv' := [(3, .int x58), (2, .int 0), (0, .ref b), (1, .ref (w.2.2.1 144)), (5, .int v5)]) hx hb dL_law_308 hl (k := 3) rfl (by rw [ex58]; rfl) (by decide) rfl (fun ls hl => ?_)
          refine lv_goto (tgt := 15) hx hb dL_law_311 (by decide) ?_
          exact hk15 I52 R53 0 x58 h  hP hS (lv_sub hl [2, 3, 1, 0] rfl)
        · replace h := mc_ie h c57
          exact bk_L_law_J275 l hL C hX hbl K hA hr hlk hk15 I52 R53 v3 v5 h  hP hS (lv_sub hl [0, 1, 3, 4] rfl)
set_option maxHeartbeats 4000000 in
set_option maxRecDepth 100000 in
theorem bk_L_law_J208 {p : Program} {e : Env} {s : State} {m : MethodId} {below : List Frame} {meth : Method} {c : Code} (l : Launch) {b L : Nat} {xs : Nat → Int32} (hL : L ≤ 260) (C : CallFix p m c code 10 s #[Value.ref b] mc_big RL) (hX : va_X b L xs s s.heap) (hbl : b < s.heap.size) {w : mc_w} (K : mc_K mc_k 152 w s) (hA : ∀ i, i < 152 → s.heap.size ≤ w.2.2.1 i) (hr : meth.sig.returnType = ret) (hlk : meth.locks = false) {F : Nat} {k15 : (Nat → Nat → Int32) → (Nat → Nat → Option Nat) → Int32 → Int32 → Option Int32} (hk15 : ∀ (I : Nat → Nat → Int32) (R : Nat → Nat → Option Nat) (v2 : Int32) (v3 : Int32), k15 I R v2 v3 = some 1 → ∀ {H : Heap} {locs : List Loc} {ls : Array Slot}, mc_P mc_k 152 w I R H → va_S (fun q => s.heap.size ≤ q) s.heap H locs → lv_has ls 10 [(0, .ref b), (1, .ref (w.2.2.1 144)), (2, .int v2), (3, .int v3)] → W p l e room_1 s m #[Value.ref b] below meth c H locs 152 1579 (lw_Z below #[Value.ref b] s) (F0 m 15 ls [])) : ∀ (I : Nat → Nat → Int32) (R : Nat → Nat → Option Nat) (v3 : Int32) (v4 : Int32) (v5 : Int32) (v7 : Int64) (v9 : Int32) (s0 : Int32) (s1 : Int32), mi_L_law_J208 k15 L xs F I R v3 v4 v5 v7 v9 s0 s1 = some 1 → ∀ {H : Heap} {locs : List Loc} {ls : Array Slot}, mc_P mc_k 152 w I R H → va_S (fun q => s.heap.size ≤ q) s.heap H locs → lv_has ls 10 [(0, .ref b), (1, .ref (w.2.2.1 144)), (3, .int v3), (4, .int v4), (5, .int v5), (7, .long v7), (9, .int v9)] → W p l e room_1 s m #[Value.ref b] below meth c H locs 152 1579 (lw_Z below #[Value.ref b] s) (F0 m 208 ls [.int s0, .int s1]) := by
  intro I R v3 v4 v5 v7 v9 s0 s1 h  H locs ls hP hS hl
  have hx := C.1
  have hb := C.2.1
  have hC := And.intro C.1 C.2.1
  unfold mi_L_law_J208 at h
  refine lv_icmp_ne (tgt := 238) hx hb dL_law_208 (by decide) (fun c67 => ?_) (fun c67 => ?_)
  · replace h := mc_ie h c67
    refine lv_iconst (v := 0) hx hb dL_law_238 (by decide) ?_
    refine lv_istore_n (i := 2) (lv' := [(2, .int 0), (0, .ref b), (1, .ref (w.2.2.1 144)), (3, .int v3), (4, .int v4), (5, .int v5), (7, .long v7), (9, .int v9)]) hx hb dL_law_239 rfl hl (by decide) rfl (fun ls hl => ?_)
    exact bk_L_law_J240 l hL C hX hbl K hA hr hlk hk15 I R 0 v3 v5 h  hP hS (lv_sub hl [1, 2, 0, 3, 5] rfl)
  · replace h := mc_it h c67
    refine lv_aload_n hx hb dL_law_211 rfl (lv_at hl 1 rfl) ?_
    obtain ⟨r68, e69, h⟩ := mc_ob_e h
    refine ml_Sj (As := [.ref (w.2.2.1 144)]) (rest := []) (ct_L_print l (w := w) (I := I) (R := R) e69) C K hP hA hS hl.1 ml_L_52 wy_L_print wd_L_print rfl rfl rfl ⟨Nat.le_of_ble_eq_true rfl, Nat.le_of_ble_eq_true rfl⟩ (Nat.le_of_ble_eq_true rfl) ⟨Nat.le_of_ble_eq_true rfl, Nat.le_of_ble_eq_true rfl⟩ dL_law_212 (fun H locs hP hS => ?_)
    refine lv_lload hx hb dL_law_215 (lv_at hl 5 rfl) ?_
    refine W.lcmp hx hb dL_law_217 ?_
    refine lv_if_ne (tgt := 238) hx hb dL_law_218 (by decide) (fun c70 => ?_) (fun c70 => ?_)
    · replace h := mc_ie h c70
      refine lv_iconst (v := 0) hx hb dL_law_238 (by decide) ?_
      refine lv_istore_n (i := 2) (lv' := [(2, .int 0), (0, .ref b), (1, .ref (w.2.2.1 144)), (3, .int v3), (4, .int v4), (5, .int v5), (7, .long v7), (9, .int v9)]) hx hb dL_law_239 rfl hl (by decide) rfl (fun ls hl => ?_)
      exact bk_L_law_J240 l hL C hX hbl K hA hr hlk hk15 I R 0 v3 v5 h  hP hS (lv_sub hl [1, 2, 0, 3, 5] rfl)
    · replace h := mc_it h c70
      refine lv_aload_n hx hb dL_law_221 rfl (lv_at hl 1 rfl) ?_
      refine lv_iload hx hb dL_law_222 (lv_at hl 3 rfl) ?_
      refine lv_iload hx hb dL_law_224 (lv_at hl 4 rfl) ?_
      obtain ⟨I71, R72, r73, e74, h⟩ := mc_ob3_e h
      refine ml_Si (As := [.ref (w.2.2.1 144), .int v4, .int v5]) (rest := []) (ct_L_act l (w := w) (I := I) (R := R) e74) C K hP hA hS hl.1 ml_L_99 wy_L_act wd_L_act rfl rfl rfl ⟨Nat.le_of_ble_eq_true rfl, Nat.le_of_ble_eq_true rfl⟩ (Nat.le_of_ble_eq_true rfl) ⟨Nat.le_of_ble_eq_true rfl, Nat.le_of_ble_eq_true rfl⟩ dL_law_226 (fun H locs hP hS => ?_)
      refine lv_iload hx hb dL_law_229 (lv_at hl 6 rfl) ?_
      refine lv_icmp_ne (tgt := 238) hx hb dL_law_231 (by decide) (fun c75 => ?_) (fun c75 => ?_)
      · replace h := mc_ie h c75
        refine lv_iconst (v := 0) hx hb dL_law_238 (by decide) ?_
        refine lv_istore_n (i := 2) (lv' := [(2, .int 0), (0, .ref b), (1, .ref (w.2.2.1 144)), (3, .int v3), (4, .int v4), (5, .int v5), (7, .long v7), (9, .int v9)]) hx hb dL_law_239 rfl hl (by decide) rfl (fun ls hl => ?_)
        exact bk_L_law_J240 l hL C hX hbl K hA hr hlk hk15 I71 R72 0 v3 v5 h  hP hS (lv_sub hl [1, 2, 0, 3, 5] rfl)
      · replace h := mc_it h c75
        refine lv_iconst (v := 1) hx hb dL_law_234 (by decide) ?_
        refine lv_goto (tgt := 239) hx hb dL_law_235 (by decide) ?_
        refine lv_istore_n (i := 2) (lv' := [(2, .int 1), (0, .ref b), (1, .ref (w.2.2.1 144)), (3, .int v3), (4, .int v4), (5, .int v5), (7, .long v7), (9, .int v9)]) hx hb dL_law_239 rfl hl (by decide) rfl (fun ls hl => ?_)
        exact bk_L_law_J240 l hL C hX hbl K hA hr hlk hk15 I71 R72 1 v3 v5 h  hP hS (lv_sub hl [1, 2, 0, 3, 5] rfl)
set_option maxHeartbeats 4000000 in
set_option maxRecDepth 100000 in
theorem bk_L_law_J170 {p : Program} {e : Env} {s : State} {m : MethodId} {below : List Frame} {meth : Method} {c : Code} (l : Launch) {b L : Nat} {xs : Nat → Int32} (hL : L ≤ 260) (C : CallFix p m c code 10 s #[Value.ref b] mc_big RL) (hX : va_X b L xs s s.heap) (hbl : b < s.heap.size) {w : mc_w} (K : mc_K mc_k 152 w s) (hA : ∀ i, i < 152 → s.heap.size ≤ w.2.2.1 i) (hr : meth.sig.returnType = ret) (hlk : meth.locks = false) {F : Nat} {k15 : (Nat → Nat → Int32) → (Nat → Nat → Option Nat) → Int32 → Int32 → Option Int32} (hk15 : ∀ (I : Nat → Nat → Int32) (R : Nat → Nat → Option Nat) (v2 : Int32) (v3 : Int32), k15 I R v2 v3 = some 1 → ∀ {H : Heap} {locs : List Loc} {ls : Array Slot}, mc_P mc_k 152 w I R H → va_S (fun q => s.heap.size ≤ q) s.heap H locs → lv_has ls 10 [(0, .ref b), (1, .ref (w.2.2.1 144)), (2, .int v2), (3, .int v3)] → W p l e room_1 s m #[Value.ref b] below meth c H locs 152 1579 (lw_Z below #[Value.ref b] s) (F0 m 15 ls [])) : ∀ (I : Nat → Nat → Int32) (R : Nat → Nat → Option Nat) (v3 : Int32) (v4 : Int32) (v5 : Int32) (v6 : Int32) (v7 : Int64) (v9 : Int32) (s0 : Int32), mi_L_law_J170 k15 L xs F I R v3 v4 v5 v6 v7 v9 s0 = some 1 → ∀ {H : Heap} {locs : List Loc} {ls : Array Slot}, mc_P mc_k 152 w I R H → va_S (fun q => s.heap.size ≤ q) s.heap H locs → lv_has ls 10 [(0, .ref b), (1, .ref (w.2.2.1 144)), (3, .int v3), (4, .int v4), (5, .int v5), (6, .int v6), (7, .long v7), (9, .int v9)] → W p l e room_1 s m #[Value.ref b] below meth c H locs 152 1579 (lw_Z below #[Value.ref b] s) (F0 m 170 ls [.int s0]) := by
  intro I R v3 v4 v5 v6 v7 v9 s0 h  H locs ls hP hS hl
  have hx := C.1
  have hb := C.2.1
  have hC := And.intro C.1 C.2.1
  unfold mi_L_law_J170 at h
  refine lv_istore_n (i := 2) (lv' := [(2, .int s0), (0, .ref b), (1, .ref (w.2.2.1 144)), (3, .int v3), (4, .int v4), (5, .int v5), (6, .int v6), (7, .long v7), (9, .int v9)]) hx hb dL_law_170 rfl hl (by decide) rfl (fun ls hl => ?_)
  refine lv_iload_n hx hb dL_law_171 rfl (lv_at hl 0 rfl) ?_
  refine lv_if_eq (tgt := 240) hx hb dL_law_172 (by decide) (fun c29 => ?_) (fun c29 => ?_)
  · replace h := mc_it h c29
    exact bk_L_law_J240 l hL C hX hbl K hA hr hlk hk15 I R s0 v3 v5 h  hP hS (lv_sub hl [1, 2, 0, 3, 5] rfl)
  · replace h := mc_ie h c29
    refine lv_iload_n hx hb dL_law_175 rfl (lv_at hl 3 rfl) ?_
    refine lv_iconst (v := 4) hx hb dL_law_176 (by decide) ?_
    refine lv_icmp_le (tgt := 240) hx hb dL_law_177 (by decide) (fun c59 => ?_) (fun c59 => ?_)
    · replace h := mc_it h c59
      exact bk_L_law_J240 l hL C hX hbl K hA hr hlk hk15 I R s0 v3 v5 h  hP hS (lv_sub hl [1, 2, 0, 3, 5] rfl)
    · replace h := mc_ie h c59
      refine lv_iload hx hb dL_law_180 (lv_at hl 4 rfl) ?_
      refine lv_bipush (v := 7) hx hb dL_law_182 (by decide) ?_
      refine lv_ishr hx hb dL_law_184 ?_
      refine lv_iconst (v := 4) hx hb dL_law_185 (by decide) ?_
      obtain ⟨r60, e61, h⟩ := mc_ob_e h
      refine ml_Si (As := [.int (v4 >>> (7 &&& 31)), .int 4]) (rest := []) (ct_L_low l (w := w) (I := I) (R := R) e61) C K hP hA hS hl.1 ml_L_68 wy_L_low wd_L_low rfl rfl rfl ⟨Nat.le_of_ble_eq_true rfl, Nat.le_of_ble_eq_true rfl⟩ (Nat.le_of_ble_eq_true rfl) ⟨Nat.le_of_ble_eq_true rfl, Nat.le_of_ble_eq_true rfl⟩ dL_law_186 (fun H locs hP hS => ?_)
      refine lv_if_ne (tgt := 240) hx hb dL_law_189 (by decide) (fun c62 => ?_) (fun c62 => ?_)
      · replace h := mc_ie h c62
        exact bk_L_law_J240 l hL C hX hbl K hA hr hlk hk15 I R s0 v3 v5 h  hP hS (lv_sub hl [1, 2, 0, 3, 5] rfl)
      · replace h := mc_it h c62
        refine lv_aload_n hx hb dL_law_192 rfl (lv_at hl 2 rfl) ?_
        obtain ⟨I63, r64, e65, h⟩ := mc_ob2_e h
        refine ml_Vi (As := []) (rest := []) (ct_X8_undo l (w := w) (I := I) (R := R) e65) C K hP hA hS hl.1 kf_144 (by decide) rfl rfl ml_L_62 wy_X8_undo wd_X8_undo rfl rfl rfl ⟨Nat.le_of_ble_eq_true rfl, Nat.le_of_ble_eq_true rfl⟩ (Nat.le_of_ble_eq_true rfl) ⟨Nat.le_of_ble_eq_true rfl, Nat.le_of_ble_eq_true rfl⟩ dL_law_193 (fun H locs hP hS => ?_)
        refine lv_iload hx hb dL_law_196 (lv_at hl 6 rfl) ?_
        refine lv_iconst (v := 4) hx hb dL_law_198 (by decide) ?_
        refine lv_icmp_ge (tgt := 207) hx hb dL_law_199 (by decide) (fun c66 => ?_) (fun c66 => ?_)
        · replace h := mc_it h c66
          refine lv_iconst (v := 3) hx hb dL_law_207 (by decide) ?_
          exact bk_L_law_J208 l hL C hX hbl K hA hr hlk hk15 I63 R v3 v4 v5 v7 v9 3 r64 h  hP hS (lv_sub hl [1, 2, 3, 4, 5, 7, 8] rfl)
        · replace h := mc_ie h c66
          refine lv_iload hx hb dL_law_202 (lv_at hl 6 rfl) ?_
          refine lv_goto (tgt := 208) hx hb dL_law_204 (by decide) ?_
          exact bk_L_law_J208 l hL C hX hbl K hA hr hlk hk15 I63 R v3 v4 v5 v7 v9 v6 r64 h  hP hS (lv_sub hl [1, 2, 3, 4, 5, 7, 8] rfl)
set_option maxHeartbeats 4000000 in
set_option maxRecDepth 100000 in
theorem bk_L_law_J162 {p : Program} {e : Env} {s : State} {m : MethodId} {below : List Frame} {meth : Method} {c : Code} (l : Launch) {b L : Nat} {xs : Nat → Int32} (hL : L ≤ 260) (C : CallFix p m c code 10 s #[Value.ref b] mc_big RL) (hX : va_X b L xs s s.heap) (hbl : b < s.heap.size) {w : mc_w} (K : mc_K mc_k 152 w s) (hA : ∀ i, i < 152 → s.heap.size ≤ w.2.2.1 i) (hr : meth.sig.returnType = ret) (hlk : meth.locks = false) {F : Nat} {k15 : (Nat → Nat → Int32) → (Nat → Nat → Option Nat) → Int32 → Int32 → Option Int32} (hk15 : ∀ (I : Nat → Nat → Int32) (R : Nat → Nat → Option Nat) (v2 : Int32) (v3 : Int32), k15 I R v2 v3 = some 1 → ∀ {H : Heap} {locs : List Loc} {ls : Array Slot}, mc_P mc_k 152 w I R H → va_S (fun q => s.heap.size ≤ q) s.heap H locs → lv_has ls 10 [(0, .ref b), (1, .ref (w.2.2.1 144)), (2, .int v2), (3, .int v3)] → W p l e room_1 s m #[Value.ref b] below meth c H locs 152 1579 (lw_Z below #[Value.ref b] s) (F0 m 15 ls [])) : ∀ (I : Nat → Nat → Int32) (R : Nat → Nat → Option Nat) (v3 : Int32) (v4 : Int32) (v5 : Int32) (v6 : Int32) (v7 : Int64) (v9 : Int32) (s0 : Int32) (s1 : Int32), mi_L_law_J162 k15 L xs F I R v3 v4 v5 v6 v7 v9 s0 s1 = some 1 → ∀ {H : Heap} {locs : List Loc} {ls : Array Slot}, mc_P mc_k 152 w I R H → va_S (fun q => s.heap.size ≤ q) s.heap H locs → lv_has ls 10 [(0, .ref b), (1, .ref (w.2.2.1 144)), (3, .int v3), (4, .int v4), (5, .int v5), (6, .int v6), (7, .long v7), (9, .int v9)] → W p l e room_1 s m #[Value.ref b] below meth c H locs 152 1579 (lw_Z below #[Value.ref b] s) (F0 m 162 ls [.int s0, .int s1]) := by
  intro I R v3 v4 v5 v6 v7 v9 s0 s1 h  H locs ls hP hS hl
  have hx := C.1
  have hb := C.2.1
  have hC := And.intro C.1 C.2.1
  unfold mi_L_law_J162 at h
  refine lv_icmp_ne (tgt := 169) hx hb dL_law_162 (by decide) (fun c28 => ?_) (fun c28 => ?_)
  · replace h := mc_ie h c28
    refine lv_iconst (v := 0) hx hb dL_law_169 (by decide) ?_
    exact bk_L_law_J170 l hL C hX hbl K hA hr hlk hk15 I R v3 v4 v5 v6 v7 v9 0 h  hP hS (lv_sub hl [0, 1, 2, 3, 4, 5, 6, 7] rfl)
  · replace h := mc_it h c28
    refine lv_iconst (v := 1) hx hb dL_law_165 (by decide) ?_
    refine lv_goto (tgt := 170) hx hb dL_law_166 (by decide) ?_
    exact bk_L_law_J170 l hL C hX hbl K hA hr hlk hk15 I R v3 v4 v5 v6 v7 v9 1 h  hP hS (lv_sub hl [0, 1, 2, 3, 4, 5, 6, 7] rfl)
set_option maxHeartbeats 4000000 in
set_option maxRecDepth 100000 in
theorem bk_L_law_J102 {p : Program} {e : Env} {s : State} {m : MethodId} {below : List Frame} {meth : Method} {c : Code} (l : Launch) {b L : Nat} {xs : Nat → Int32} (hL : L ≤ 260) (C : CallFix p m c code 10 s #[Value.ref b] mc_big RL) (hX : va_X b L xs s s.heap) (hbl : b < s.heap.size) {w : mc_w} (K : mc_K mc_k 152 w s) (hA : ∀ i, i < 152 → s.heap.size ≤ w.2.2.1 i) (hr : meth.sig.returnType = ret) (hlk : meth.locks = false) {F : Nat} {k15 : (Nat → Nat → Int32) → (Nat → Nat → Option Nat) → Int32 → Int32 → Option Int32} (hk15 : ∀ (I : Nat → Nat → Int32) (R : Nat → Nat → Option Nat) (v2 : Int32) (v3 : Int32), k15 I R v2 v3 = some 1 → ∀ {H : Heap} {locs : List Loc} {ls : Array Slot}, mc_P mc_k 152 w I R H → va_S (fun q => s.heap.size ≤ q) s.heap H locs → lv_has ls 10 [(0, .ref b), (1, .ref (w.2.2.1 144)), (2, .int v2), (3, .int v3)] → W p l e room_1 s m #[Value.ref b] below meth c H locs 152 1579 (lw_Z below #[Value.ref b] s) (F0 m 15 ls [])) : ∀ (I : Nat → Nat → Int32) (R : Nat → Nat → Option Nat) (v3 : Int32) (v4 : Int32) (v5 : Int32) (v6 : Int32) (v7 : Int64) (s0 : Int32), mi_L_law_J102 k15 L xs F I R v3 v4 v5 v6 v7 s0 = some 1 → ∀ {H : Heap} {locs : List Loc} {ls : Array Slot}, mc_P mc_k 152 w I R H → va_S (fun q => s.heap.size ≤ q) s.heap H locs → lv_has ls 10 [(0, .ref b), (1, .ref (w.2.2.1 144)), (3, .int v3), (4, .int v4), (5, .int v5), (6, .int v6), (7, .long v7)] → W p l e room_1 s m #[Value.ref b] below meth c H locs 152 1579 (lw_Z below #[Value.ref b] s) (F0 m 102 ls [.int s0]) := by
  intro I R v3 v4 v5 v6 v7 s0 h  H locs ls hP hS hl
  have hx := C.1
  have hb := C.2.1
  have hC := And.intro C.1 C.2.1
  unfold mi_L_law_J102 at h
  refine lv_istore (i := 9) (lv' := [(9, .int s0), (0, .ref b), (1, .ref (w.2.2.1 144)), (3, .int v3), (4, .int v4), (5, .int v5), (6, .int v6), (7, .long v7)]) hx hb dL_law_102 hl (by decide) rfl (fun ls hl => ?_)
  refine lv_iload hx hb dL_law_104 (lv_at hl 0 rfl) ?_
  refine lv_sipush (v := (-1000)) hx hb dL_law_106 (by decide) ?_
  refine lv_icmp_ge (tgt := 142) hx hb dL_law_109 (by decide) (fun c24 => ?_) (fun c24 => ?_)
  · replace h := mc_it h c24
    refine lv_aload_n hx hb dL_law_142 rfl (lv_at hl 2 rfl) ?_
    refine lv_bipush (v := 17) hx hb dL_law_143 (by decide) ?_
    obtain ⟨r25, e26, h⟩ := mc_ob_e h
    refine ml_Vi (As := [.int 17]) (rest := []) (ct_X8_count l (w := w) (I := I) (R := R) e26) C K hP hA hS hl.1 kf_144 (by decide) rfl rfl ml_L_10 wy_X8_count wd_X8_count rfl rfl rfl ⟨Nat.le_of_ble_eq_true rfl, Nat.le_of_ble_eq_true rfl⟩ (Nat.le_of_ble_eq_true rfl) ⟨Nat.le_of_ble_eq_true rfl, Nat.le_of_ble_eq_true rfl⟩ dL_law_145 (fun H locs hP hS => ?_)
    refine lv_iload hx hb dL_law_148 (lv_at hl 6 rfl) ?_
    refine lv_iconst (v := 4) hx hb dL_law_150 (by decide) ?_
    refine lv_icmp_ge (tgt := 161) hx hb dL_law_151 (by decide) (fun c27 => ?_) (fun c27 => ?_)
    · replace h := mc_it h c27
      refine lv_iconst (v := 4) hx hb dL_law_161 (by decide) ?_
      exact bk_L_law_J162 l hL C hX hbl K hA hr hlk hk15 I R v3 v4 v5 v6 v7 s0 4 r25 h  hP hS (lv_sub hl [1, 2, 3, 4, 5, 6, 7, 0] rfl)
    · replace h := mc_ie h c27
      refine lv_iload hx hb dL_law_154 (lv_at hl 6 rfl) ?_
      refine lv_iconst (v := 1) hx hb dL_law_156 (by decide) ?_
      refine lv_iadd hx hb dL_law_157 ?_
      refine lv_goto (tgt := 162) hx hb dL_law_158 (by decide) ?_
      exact bk_L_law_J162 l hL C hX hbl K hA hr hlk hk15 I R v3 v4 v5 v6 v7 s0 (v6 + 1) r25 h  hP hS (lv_sub hl [1, 2, 3, 4, 5, 6, 7, 0] rfl)
  · replace h := mc_ie h c24
    refine lv_aload_n hx hb dL_law_112 rfl (lv_at hl 2 rfl) ?_
    refine lv_bipush (v := 17) hx hb dL_law_113 (by decide) ?_
    obtain ⟨r76, e77, h⟩ := mc_ob_e h
    refine ml_Vi (As := [.int 17]) (rest := []) (ct_X8_count l (w := w) (I := I) (R := R) e77) C K hP hA hS hl.1 kf_144 (by decide) rfl rfl ml_L_10 wy_X8_count wd_X8_count rfl rfl rfl ⟨Nat.le_of_ble_eq_true rfl, Nat.le_of_ble_eq_true rfl⟩ (Nat.le_of_ble_eq_true rfl) ⟨Nat.le_of_ble_eq_true rfl, Nat.le_of_ble_eq_true rfl⟩ dL_law_115 (fun H locs hP hS => ?_)
    refine lv_iload hx hb dL_law_118 (lv_at hl 6 rfl) ?_
    refine lv_icmp_ne (tgt := 137) hx hb dL_law_120 (by decide) (fun c78 => ?_) (fun c78 => ?_)
    · replace h := mc_ie h c78
      refine lv_iconst (v := 0) hx hb dL_law_137 (by decide) ?_
      refine lv_istore_n (i := 2) (lv' := [(2, .int 0), (9, .int s0), (0, .ref b), (1, .ref (w.2.2.1 144)), (3, .int v3), (4, .int v4), (5, .int v5), (6, .int v6), (7, .long v7)]) hx hb dL_law_138 rfl hl (by decide) rfl (fun ls hl => ?_)
      refine lv_goto (tgt := 240) hx hb dL_law_139 (by decide) ?_
      exact bk_L_law_J240 l hL C hX hbl K hA hr hlk hk15 I R 0 v3 v5 h  hP hS (lv_sub hl [2, 3, 0, 4, 6] rfl)
    · replace h := mc_it h c78
      refine lv_aload_n hx hb dL_law_123 rfl (lv_at hl 2 rfl) ?_
      obtain ⟨r79, e80, h⟩ := mc_ob_e h
      refine ml_Sj (As := [.ref (w.2.2.1 144)]) (rest := []) (ct_L_print l (w := w) (I := I) (R := R) e80) C K hP hA hS hl.1 ml_L_52 wy_L_print wd_L_print rfl rfl rfl ⟨Nat.le_of_ble_eq_true rfl, Nat.le_of_ble_eq_true rfl⟩ (Nat.le_of_ble_eq_true rfl) ⟨Nat.le_of_ble_eq_true rfl, Nat.le_of_ble_eq_true rfl⟩ dL_law_124 (fun H locs hP hS => ?_)
      refine lv_lload hx hb dL_law_127 (lv_at hl 7 rfl) ?_
      refine W.lcmp hx hb dL_law_129 ?_
      refine lv_if_ne (tgt := 137) hx hb dL_law_130 (by decide) (fun c81 => ?_) (fun c81 => ?_)
      · replace h := mc_ie h c81
        refine lv_iconst (v := 0) hx hb dL_law_137 (by decide) ?_
        refine lv_istore_n (i := 2) (lv' := [(2, .int 0), (9, .int s0), (0, .ref b), (1, .ref (w.2.2.1 144)), (3, .int v3), (4, .int v4), (5, .int v5), (6, .int v6), (7, .long v7)]) hx hb dL_law_138 rfl hl (by decide) rfl (fun ls hl => ?_)
        refine lv_goto (tgt := 240) hx hb dL_law_139 (by decide) ?_
        exact bk_L_law_J240 l hL C hX hbl K hA hr hlk hk15 I R 0 v3 v5 h  hP hS (lv_sub hl [2, 3, 0, 4, 6] rfl)
      · replace h := mc_it h c81
        refine lv_iconst (v := 1) hx hb dL_law_133 (by decide) ?_
        refine lv_goto (tgt := 138) hx hb dL_law_134 (by decide) ?_
        refine lv_istore_n (i := 2) (lv' := [(2, .int 1), (9, .int s0), (0, .ref b), (1, .ref (w.2.2.1 144)), (3, .int v3), (4, .int v4), (5, .int v5), (6, .int v6), (7, .long v7)]) hx hb dL_law_138 rfl hl (by decide) rfl (fun ls hl => ?_)
        refine lv_goto (tgt := 240) hx hb dL_law_139 (by decide) ?_
        exact bk_L_law_J240 l hL C hX hbl K hA hr hlk hk15 I R 1 v3 v5 h  hP hS (lv_sub hl [2, 3, 0, 4, 6] rfl)
set_option maxHeartbeats 4000000 in
set_option maxRecDepth 100000 in
theorem bk_L_law_B15 {p : Program} {e : Env} {s : State} {m : MethodId} {below : List Frame} {meth : Method} {c : Code} (l : Launch) {b L : Nat} {xs : Nat → Int32} (hL : L ≤ 260) (C : CallFix p m c code 10 s #[Value.ref b] mc_big RL) (hX : va_X b L xs s s.heap) (hbl : b < s.heap.size) {w : mc_w} (K : mc_K mc_k 152 w s) (hA : ∀ i, i < 152 → s.heap.size ≤ w.2.2.1 i) (hr : meth.sig.returnType = ret) (hlk : meth.locks = false) {F : Nat} {k15 : (Nat → Nat → Int32) → (Nat → Nat → Option Nat) → Int32 → Int32 → Option Int32} (hk15 : ∀ (I : Nat → Nat → Int32) (R : Nat → Nat → Option Nat) (v2 : Int32) (v3 : Int32), k15 I R v2 v3 = some 1 → ∀ {H : Heap} {locs : List Loc} {ls : Array Slot}, mc_P mc_k 152 w I R H → va_S (fun q => s.heap.size ≤ q) s.heap H locs → lv_has ls 10 [(0, .ref b), (1, .ref (w.2.2.1 144)), (2, .int v2), (3, .int v3)] → W p l e room_1 s m #[Value.ref b] below meth c H locs 152 1579 (lw_Z below #[Value.ref b] s) (F0 m 15 ls [])) : ∀ (I : Nat → Nat → Int32) (R : Nat → Nat → Option Nat) (v2 : Int32) (v3 : Int32), mi_L_law_B15 k15 L xs F I R v2 v3 = some 1 → ∀ {H : Heap} {locs : List Loc} {ls : Array Slot}, mc_P mc_k 152 w I R H → va_S (fun q => s.heap.size ≤ q) s.heap H locs → lv_has ls 10 [(0, .ref b), (1, .ref (w.2.2.1 144)), (2, .int v2), (3, .int v3)] → W p l e room_1 s m #[Value.ref b] below meth c H locs 152 1579 (lw_Z below #[Value.ref b] s) (F0 m 15 ls []) := by
  intro I R v2 v3 h  H locs ls hP hS hl
  have hx := C.1
  have hb := C.2.1
  have hC := And.intro C.1 C.2.1
  unfold mi_L_law_B15 at h
  refine lv_iload_n hx hb dL_law_15 rfl (lv_at hl 3 rfl) ?_
  refine lv_bipush (v := 44) hx hb dL_law_16 (by decide) ?_
  refine lv_icmp_ge (tgt := 314) hx hb dL_law_18 (by decide) (fun c4 => ?_) (fun c4 => ?_)
  · replace h := mc_it h c4
    exact bk_L_law_J314 l hL C hX hbl K hA hr hlk  I R v2 h  hP hS (lv_sub hl [1, 2] rfl)
  · replace h := mc_ie h c4
    refine lv_iload_n hx hb dL_law_21 rfl (lv_at hl 2 rfl) ?_
    refine lv_if_eq (tgt := 314) hx hb dL_law_22 (by decide) (fun c10 => ?_) (fun c10 => ?_)
    · replace h := mc_it h c10
      exact bk_L_law_J314 l hL C hX hbl K hA hr hlk  I R v2 h  hP hS (lv_sub hl [1, 2] rfl)
    · replace h := mc_ie h c10
      refine lv_aload_n hx hb dL_law_25 rfl (lv_at hl 0 rfl) ?_
      refine lv_iconst (v := 2) hx hb dL_law_26 (by decide) ?_
      refine lv_iload_n hx hb dL_law_27 rfl (lv_at hl 3 rfl) ?_
      refine lv_imul hx hb dL_law_28 ?_
      obtain ⟨g11, h⟩ := mc_gd h
      refine ml_cell C hP hX hbl hL hS hl.1 g11 ml_L_95 ⟨Nat.le_of_ble_eq_true rfl, Nat.le_of_ble_eq_true rfl⟩ (Nat.le_of_ble_eq_true rfl) ⟨Nat.le_of_ble_eq_true rfl, Nat.le_of_ble_eq_true rfl⟩ dL_law_29 (fun H locs hP hS => ?_)
      obtain ⟨x12, ex12, h⟩ := mc_bn_e h
      refine mv_top ex12 ?_
      refine lv_istore (i := 4) (lv' := [(4, .int x12), (0, .ref b), (1, .ref (w.2.2.1 144)), (2, .int v2), (3, .int v3)]) hx hb dL_law_32 hl (by decide) rfl (fun ls hl => ?_)
      refine lv_aload_n hx hb dL_law_34 rfl (lv_at hl 1 rfl) ?_
      refine lv_iconst (v := 2) hx hb dL_law_35 (by decide) ?_
      refine lv_iload_n hx hb dL_law_36 rfl (lv_at hl 4 rfl) ?_
      refine lv_imul hx hb dL_law_37 ?_
      refine lv_iconst (v := 1) hx hb dL_law_38 (by decide) ?_
      refine lv_iadd hx hb dL_law_39 ?_
      obtain ⟨g13, h⟩ := mc_gd h
      refine ml_cell C hP hX hbl hL hS hl.1 g13 ml_L_95 ⟨Nat.le_of_ble_eq_true rfl, Nat.le_of_ble_eq_true rfl⟩ (Nat.le_of_ble_eq_true rfl) ⟨Nat.le_of_ble_eq_true rfl, Nat.le_of_ble_eq_true rfl⟩ dL_law_40 (fun H locs hP hS => ?_)
      obtain ⟨x14, ex14, h⟩ := mc_bn_e h
      refine mv_top ex14 ?_
      refine lv_istore (i := 5) (lv' := [(5, .int x14), (4, .int x12), (0, .ref b), (1, .ref (w.2.2.1 144)), (2, .int v2), (3, .int v3)]) hx hb dL_law_43 hl (by decide) rfl (fun ls hl => ?_)
      refine lv_aload_n hx hb dL_law_45 rfl (lv_at hl 3 rfl) ?_
      refine lv_bipush (v := 17) hx hb dL_law_46 (by decide) ?_
      obtain ⟨r15, e16, h⟩ := mc_ob_e h
      refine ml_Vi (As := [.int 17]) (rest := []) (ct_X8_count l (w := w) (I := I) (R := R) e16) C K hP hA hS hl.1 kf_144 (by decide) rfl rfl ml_L_10 wy_X8_count wd_X8_count rfl rfl rfl ⟨Nat.le_of_ble_eq_true rfl, Nat.le_of_ble_eq_true rfl⟩ (Nat.le_of_ble_eq_true rfl) ⟨Nat.le_of_ble_eq_true rfl, Nat.le_of_ble_eq_true rfl⟩ dL_law_48 (fun H locs hP hS => ?_)
      refine lv_istore (i := 6) (lv' := [(6, .int r15), (5, .int x14), (4, .int x12), (0, .ref b), (1, .ref (w.2.2.1 144)), (2, .int v2), (3, .int v3)]) hx hb dL_law_51 hl (by decide) rfl (fun ls hl => ?_)
      refine lv_aload_n hx hb dL_law_53 rfl (lv_at hl 4 rfl) ?_
      obtain ⟨r17, e18, h⟩ := mc_ob_e h
      refine ml_Sj (As := [.ref (w.2.2.1 144)]) (rest := []) (ct_L_print l (w := w) (I := I) (R := R) e18) C K hP hA hS hl.1 ml_L_52 wy_L_print wd_L_print rfl rfl rfl ⟨Nat.le_of_ble_eq_true rfl, Nat.le_of_ble_eq_true rfl⟩ (Nat.le_of_ble_eq_true rfl) ⟨Nat.le_of_ble_eq_true rfl, Nat.le_of_ble_eq_true rfl⟩ dL_law_54 (fun H locs hP hS => ?_)
      refine lv_lstore (i := 7) (lv' := [(7, .long r17), (6, .int r15), (5, .int x14), (4, .int x12), (0, .ref b), (1, .ref (w.2.2.1 144)), (2, .int v2), (3, .int v3)]) hx hb dL_law_57 hl (by decide) rfl (fun ls hl => ?_)
      refine lv_iload_n hx hb dL_law_59 rfl (lv_at hl 7 rfl) ?_
      refine lv_iconst (v := 4) hx hb dL_law_60 (by decide) ?_
      refine lv_icmp_ge (tgt := 94) hx hb dL_law_61 (by decide) (fun c19 => ?_) (fun c19 => ?_)
      · replace h := mc_it h c19
        refine lv_aload_n hx hb dL_law_94 rfl (lv_at hl 5 rfl) ?_
        refine lv_iload hx hb dL_law_95 (lv_at hl 3 rfl) ?_
        refine lv_iload hx hb dL_law_97 (lv_at hl 2 rfl) ?_
        obtain ⟨I20, R21, r22, e23, h⟩ := mc_ob3_e h
        refine ml_Si (As := [.ref (w.2.2.1 144), .int x12, .int x14]) (rest := []) (ct_L_act l (w := w) (I := I) (R := R) e23) C K hP hA hS hl.1 ml_L_99 wy_L_act wd_L_act rfl rfl rfl ⟨Nat.le_of_ble_eq_true rfl, Nat.le_of_ble_eq_true rfl⟩ (Nat.le_of_ble_eq_true rfl) ⟨Nat.le_of_ble_eq_true rfl, Nat.le_of_ble_eq_true rfl⟩ dL_law_99 (fun H locs hP hS => ?_)
        exact bk_L_law_J102 l hL C hX hbl K hA hr hlk hk15 I20 R21 v3 x12 x14 r15 r17 r22 h  hP hS (lv_sub hl [4, 5, 7, 3, 2, 1, 0] rfl)
      · replace h := mc_ie h c19
        refine lv_iload_n hx hb dL_law_64 rfl (lv_at hl 7 rfl) ?_
        refine lv_iconst (v := 2) hx hb dL_law_65 (by decide) ?_
        refine lv_irem hx hb dL_law_66 (by decide) ?_
        refine lv_if_ne (tgt := 78) hx hb dL_law_67 (by decide) (fun c82 => ?_) (fun c82 => ?_)
        · replace h := mc_ie h c82
          refine lv_aload_n hx hb dL_law_78 rfl (lv_at hl 5 rfl) ?_
          refine lv_iconst (v := 5) hx hb dL_law_79 (by decide) ?_
          refine lv_iload hx hb dL_law_80 (lv_at hl 2 rfl) ?_
          refine lv_bipush (v := 120) hx hb dL_law_82 (by decide) ?_
          obtain ⟨r83, e84, h⟩ := mc_ob_e h
          refine ml_Si (As := [.int x14, .int 120]) (rest := [.int 5, .ref (w.2.2.1 144)]) (ct_L_low l (w := w) (I := I) (R := R) e84) C K hP hA hS hl.1 ml_L_68 wy_L_low wd_L_low rfl rfl rfl ⟨Nat.le_of_ble_eq_true rfl, Nat.le_of_ble_eq_true rfl⟩ (Nat.le_of_ble_eq_true rfl) ⟨Nat.le_of_ble_eq_true rfl, Nat.le_of_ble_eq_true rfl⟩ dL_law_84 (fun H locs hP hS => ?_)
          refine lv_iadd hx hb dL_law_87 ?_
          obtain ⟨I85, R86, r87, e88, h⟩ := mc_ob3_e h
          refine ml_Vi (As := [.int (5 + r83)]) (rest := []) (ct_X8_pay l (w := w) (I := I) (R := R) e88) C K hP hA hS hl.1 kf_144 (by decide) rfl rfl ml_L_65 wy_X8_pay wd_X8_pay rfl rfl rfl ⟨Nat.le_of_ble_eq_true rfl, Nat.le_of_ble_eq_true rfl⟩ (Nat.le_of_ble_eq_true rfl) ⟨Nat.le_of_ble_eq_true rfl, Nat.le_of_ble_eq_true rfl⟩ dL_law_88 (fun H locs hP hS => ?_)
          refine lv_goto (tgt := 102) hx hb dL_law_91 (by decide) ?_
          exact bk_L_law_J102 l hL C hX hbl K hA hr hlk hk15 I85 R86 v3 x12 x14 r15 r17 r87 h  hP hS (lv_sub hl [4, 5, 7, 3, 2, 1, 0] rfl)
        · replace h := mc_it h c82
          refine lv_aload_n hx hb dL_law_70 rfl (lv_at hl 5 rfl) ?_
          refine lv_iconst (v := 1) hx hb dL_law_71 (by decide) ?_
          obtain ⟨I89, R90, r91, e92, h⟩ := mc_ob3_e h
          refine ml_Vi (As := [.int 1]) (rest := []) (ct_X8_clamp l (w := w) (I := I) (R := R) e92) C K hP hA hS hl.1 kf_144 (by decide) rfl rfl ml_L_71 wy_X8_clamp wd_X8_clamp rfl rfl rfl ⟨Nat.le_of_ble_eq_true rfl, Nat.le_of_ble_eq_true rfl⟩ (Nat.le_of_ble_eq_true rfl) ⟨Nat.le_of_ble_eq_true rfl, Nat.le_of_ble_eq_true rfl⟩ dL_law_72 (fun H locs hP hS => ?_)
          refine lv_goto (tgt := 102) hx hb dL_law_75 (by decide) ?_
          exact bk_L_law_J102 l hL C hX hbl K hA hr hlk hk15 I89 R90 v3 x12 x14 r15 r17 r91 h  hP hS (lv_sub hl [4, 5, 7, 3, 2, 1, 0] rfl)
theorem bk_L_law_L15 {p : Program} {e : Env} {s : State} {m : MethodId} {below : List Frame} {meth : Method} {c : Code} (l : Launch) {b L : Nat} {xs : Nat → Int32} (hL : L ≤ 260) (C : CallFix p m c code 10 s #[Value.ref b] mc_big RL) (hX : va_X b L xs s s.heap) (hbl : b < s.heap.size) {w : mc_w} (K : mc_K mc_k 152 w s) (hA : ∀ i, i < 152 → s.heap.size ≤ w.2.2.1 i) (hr : meth.sig.returnType = ret) (hlk : meth.locks = false) {F : Nat} : ∀ n : Nat, ∀ (I : Nat → Nat → Int32) (R : Nat → Nat → Option Nat) (v2 : Int32) (v3 : Int32), mi_L_law_L15 L xs F n I R v2 v3 = some 1 → ∀ {H : Heap} {locs : List Loc} {ls : Array Slot}, mc_P mc_k 152 w I R H → va_S (fun q => s.heap.size ≤ q) s.heap H locs → lv_has ls 10 [(0, .ref b), (1, .ref (w.2.2.1 144)), (2, .int v2), (3, .int v3)] → W p l e room_1 s m #[Value.ref b] below meth c H locs 152 1579 (lw_Z below #[Value.ref b] s) (F0 m 15 ls []) := by
  intro n
  induction n with
  | zero =>
    intro I R v2 v3 h
    cases h
  | succ n ih =>
    intro I R v2 v3 h
    exact bk_L_law_B15 l hL C hX hbl K hA hr hlk  ih I R v2 v3 h
set_option maxHeartbeats 4000000 in
set_option maxRecDepth 100000 in
theorem bk_L_law {p : Program} {e : Env} {s : State} {m : MethodId} {below : List Frame} {meth : Method} {c : Code} (l : Launch) {b L : Nat} {xs : Nat → Int32} (hL : L ≤ 260) (C : CallFix p m c code 10 s #[Value.ref b] mc_big RL) (hX : va_X b L xs s s.heap) (hbl : b < s.heap.size) {w : mc_w} (K : mc_K mc_k 152 w s) (hA : ∀ i, i < 152 → s.heap.size ≤ w.2.2.1 i) (hr : meth.sig.returnType = ret) (hlk : meth.locks = false) {F : Nat} : ∀ (I : Nat → Nat → Int32) (R : Nat → Nat → Option Nat), mi_L_law L xs F I R = some 1 → ∀ {H : Heap} {locs : List Loc} {ls : Array Slot}, mc_P mc_k 152 w I R H → va_S (fun q => s.heap.size ≤ q) s.heap H locs → lv_has ls 10 [(1, .ref (w.2.2.1 144)), (0, .ref b)] → W p l e room_1 s m #[Value.ref b] below meth c H locs 152 1579 (lw_Z below #[Value.ref b] s) (F0 m 8 ls []) := by
  intro I R h H locs ls hP hS hl
  have hx := C.1
  have hb := C.2.1
  have hC := And.intro C.1 C.2.1
  unfold mi_L_law at h
  refine lv_aload_n hx hb dL_law_8 rfl (lv_at hl 0 rfl) ?_
  obtain ⟨r1, e2, h⟩ := mc_ob_e h
  refine ml_Sz (As := [.ref (w.2.2.1 144)]) (rest := []) (ct_L_hangs l (w := w) (I := I) (R := R) e2) C K hP hA hS hl.1 ml_L_59 wy_L_hangs wd_L_hangs rfl rfl rfl ⟨Nat.le_of_ble_eq_true rfl, Nat.le_of_ble_eq_true rfl⟩ (Nat.le_of_ble_eq_true rfl) ⟨Nat.le_of_ble_eq_true rfl, Nat.le_of_ble_eq_true rfl⟩ dL_law_9 (fun H locs hP z3 hS => ?_)
  refine lv_istore_n (i := 2) (lv' := [(2, .int r1), (1, .ref (w.2.2.1 144)), (0, .ref b)]) hx hb dL_law_12 rfl hl (by decide) rfl (fun ls hl => ?_)
  refine lv_iconst (v := 0) hx hb dL_law_13 (by decide) ?_
  refine lv_istore_n (i := 3) (lv' := [(3, .int 0), (2, .int r1), (1, .ref (w.2.2.1 144)), (0, .ref b)]) hx hb dL_law_14 rfl hl (by decide) rfl (fun ls hl => ?_)
  exact bk_L_law_L15 l hL C hX hbl K hA hr hlk  F I R r1 0 h  hP hS (lv_sub hl [3, 2, 1, 0] rfl)

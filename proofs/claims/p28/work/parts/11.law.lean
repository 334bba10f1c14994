/-! THE CLAIM OUT OF ONE WALK OF THE LAW'S BODY. Your part is whole_start (and what it stands on); all else here is the same for every law, but numbers. -/
def R_law : String := "MessengerCastsLaw"
def lw_P (b : Addr) (xs : List Int32) (args : Array Value) (s : State) : Prop := args = #[.ref b] ∧ s.IntsAt b xs ∧ xs.length ≤ 260 ∧ (Jvm.Cond.and given_1 narrow_1).before args s = true
def lw_Q (_ : Array Value) (s : State) (o : Outcome) (t : State) : Prop := o = .returned (some (.int 1)) ∧ Framed s o t [] 600000 7302250
def lw_Z (below : List Frame) (a : Array Value) (s : State) : State → Prop := fun t => ∃ o, t.status = .running ∧ Ended t below o ∧ lw_Q a s o t
/-- the law's own end, with 1 on the stack, nothing written that was there before, its room as the claim has it -/
theorem lw_ret {p : Program} {l : Launch} {e : Env} {s : State} {m : MethodId} {below : List Frame} {meth : Method} {c : Code} {b : Nat} (hx : p.tables.exec = Jvm.exec) (hb : c.code = code) (hr : meth.sig.returnType = ret) (hlocks : meth.locks = false) {pc : Nat} {H : Heap} {ls : Array Slot} (hdg : decode code pc = .ok (.ireturn, 1)) : W p l e room_1 s m #[Value.ref b] below meth c H [] 600000 7302250 (lw_Z below #[Value.ref b] s) (F0 m pc ls [.int 1]) := by
  intro T hT X
  obtain ⟨fs, hret, hrun, hended, hW, hframe⟩ := X.leave (v := some (.int 1)) (hlocks := hlocks) (fun h => by rw [hr] at h; cases h)
  have hmeth' : T.vm.method? m = some meth := X.method'
  refine ⟨T.setFrames fs, ?_, .returned (some (.int 1)), hrun, hended, rfl, ⟨_, rfl⟩, hW, hframe⟩
  jvm_step X.here [X.here.top, hx, hb, hdg, hmeth', hr, ret, narrow_b1]
  (try refine ⟨rfl, ?_⟩); (try refine ⟨rfl, ?_⟩)
  first | (intro acts; rw [hret _ acts rfl rfl rfl]) | rw [hret _ _ rfl rfl rfl]
  exact Steps.refl _
/-- what holds at the law's entry: the machine, the code, the tables' words (any of lw_tbl by 'hts w (by decide +kernel)'), the script of L ints xs at the cell b, what the Statement gives of the start (any of its parts by flat_of_before) -/
def lw_At (p : Program) (s : State) (m : MethodId) (meth : Method) (c : Code) (b L : Nat) (xs : Nat → Int32) : Prop :=
  p.tables.exec = Jvm.exec ∧ c.code = code ∧ meth.sig.returnType = ret ∧ c.maxLocals = 10 ∧ s.vm.findClass R_law = some m.cls ∧ (∀ w ∈ lw_tbl, w.before #[Value.ref b] s = true) ∧ va_X b L xs s s.heap ∧ b < s.heap.size ∧ meth.locks = false ∧ (Jvm.Cond.and given_1 narrow_1).before #[Value.ref b] s = true
/-! the law: its own walk -/
theorem mc_P.kept {κ : Nat → Nat} {N : Nat} {w : mc_w} {I : Nat → Nat → Int32} {R : Nat → Nat → Option Nat} {H H1 : Heap} (h : mc_P κ N w I R H) (hq : ∀ i, i < N → w.2.2.1 i < H.size → H1[w.2.2.1 i]? = H[w.2.2.1 i]?) : mc_P κ N w I R H1 := by
  refine ⟨fun k q hk => ?_, h.2⟩
  have h1 := h.1 k q hk
  have hlt := h1.lt
  have hkN : k < N := by
    have := (List.getElem?_eq_some_iff.mp hk).1
    simpa [mc_gW] using this
  have hq1 : q.1 = w.2.2.1 k := by
    rw [mc_gW_get hkN] at hk
    cases hk
    rfl
  refine h1.kept ?_
  rw [hq1] at hlt ⊢
  exact hq k hkN hlt
theorem mc_K.mvL {κ : Nat → Nat} {N : Nat} {w : mc_w} {s t : State} {locs : List Loc} (h : mc_K κ N w s) (hW : s.WarmedH t.vm) (hS : va_S (fun q => s.heap.size ≤ q) s.heap t.heap locs) : mc_K κ N w t :=
  ⟨h.1.moved hW.alike, h.2.1, h.2.2.1, (h.2.2.2.1.moved hW.alike).kept (fun a h1 _ => hS.2.1 a h1 (Nat.not_le.mpr h1)), (h.2.2.2.2.1.moved hW.alike).kept (fun a h1 _ => hS.2.1 a h1 (Nat.not_le.mpr h1)), h.2.2.2.2.2.warm hW⟩
section MLW
variable {p : Program} {l : Launch} {e : Env} {Rm : Room} {s : State} {m : MethodId} {args : Array Value} {below : List Frame} {meth : Method} {c : Code} {H : Heap} {locs : List Loc} {cells slots : Nat} {Q : State → Prop} {cc : ByteArray} {pc nL : Nat} {ls : Array Slot} {rest : List Value} {κ : Nat → Nat} {N : Nat} {w : mc_w} {I : Nat → Nat → Int32} {R : Nat → Nat → Option Nat}
theorem ml_V {own : String} {idx maxL a k : Nat} {y : MethodName} {bc : ByteArray} {ret : Option FieldType} {rm : Room} {As st : List Value} {ci n0 : Nat} {Cn : String} {T : u_T} {fs : List Value} {rv : Option Value} {B : State → Prop}
    (hM : Met l y (Cond.code y bc maxL ret :: mc_big) rm (va_Pc (.ref (w.2.2.1 a) :: As) (mc_B κ N w I R)) (mc_Q rv B (mc_A N w)) 0 0 (mc_A N w))
    (C : CallFix p m c cc nL s args mc_big own) (K : mc_K κ N w s) (hP : mc_P κ N w I R H) (hA : ∀ i, i < N → s.heap.size ≤ w.2.2.1 i) (hS : va_S (fun q => s.heap.size ≤ q) s.heap H locs) (hsize : ls.size = nL)
    (hk : κ a = k) (hk2 : k ≠ 17) (he : mc_Ei w k a (I a) (R a) = .inr (ci, fs)) (hc : vwCl[ci]? = some (Cn, T, n0))
    (h0 : Cond.methodLink own idx y ∈ mc_big) (h1 : Cond.instanceMethod y ∈ mc_big ∧ Cond.selects Cn y y ∈ mc_big ∧ Cond.initialized Cn ∈ mc_big ∧ Cond.code y bc maxL ret ∈ mc_big)
    (hd : y.cls = Cn ∧ y.cls ≠ "java/lang/invoke/MethodHandle" ∧ y.cls ≠ "java/lang/invoke/VarHandle" ∧ (parseMethodDescriptor y.desc).map (fun d => d.parameters.length) = some As.length)
    (hst : st = As.reverse ++ .ref (w.2.2.1 a) :: rest) (hrc : rm.cells = 0) (hrs : rm.slots = 0) (hR : rm.frames + 1 ≤ Rm.frames ∧ 8 + (maxL + 11) + rm.locals ≤ Rm.locals) (hcat : (rest.map fun v => v.category).sum ≤ 8) (hf : cells ≤ Rm.cells ∧ slots ≤ Rm.slots)
    (hdg : decode cc pc = .ok (.invokevirtual idx, 3))
    (kk : ∀ (t : State) (locs1 : List Loc), B t → va_S (fun q => s.heap.size ≤ q) s.heap t.heap locs1 → W p l e Rm s m args below meth c t.heap locs1 cells slots Q (F0 m (pc + 3) ls (rv.toList ++ rest))) : W p l e Rm s m args below meth c H locs cells slots Q (F0 m pc ls st) := by
  have hat := mc_at (I := I) (R := R) K hk hk2
  rw [he] at hat
  exact mx_call (va_runV (As := As) (rest := rest) C hM (cwV As.length C.2.2.2.2 (mg_gV h0 h1) rfl hrc hrs hd hR) ⟨fun a U g mk q => ⟨q.1, mc_B.blind q.2⟩, va_recv K.1 hP.1 hc hat, fun U hU hW => ⟨rfl, by rw [hU]; exact hP, K.mvL hW (by rw [hU]; exact hS)⟩⟩ rfl rfl hsize hst (lv_room hcat) hdg hf) hS
    (fun q hq => by obtain ⟨i, hi, e⟩ := hq; rw [e]; exact hA i hi) (fun t locs1 hB hq hS1 => kk t locs1 hB hS1)
theorem ml_S {own : String} {idx maxL : Nat} {y : MethodName} {bc : ByteArray} {ret : Option FieldType} {rm : Room} {As st : List Value} {rv : Option Value} {B : State → Prop}
    (hM : Met l y (Cond.code y bc maxL ret :: mc_big) rm (va_Pc As (mc_B κ N w I R)) (mc_Q rv B (mc_A N w)) 0 0 (mc_A N w))
    (C : CallFix p m c cc nL s args mc_big own) (K : mc_K κ N w s) (hP : mc_P κ N w I R H) (hA : ∀ i, i < N → s.heap.size ≤ w.2.2.1 i) (hS : va_S (fun q => s.heap.size ≤ q) s.heap H locs) (hsize : ls.size = nL)
    (h0 : Cond.methodLink own idx y ∈ mc_big) (h1 : Cond.static y ∈ mc_big ∧ Cond.initialized y.cls ∈ mc_big ∧ Cond.code y bc maxL ret ∈ mc_big)
    (hd : y.cls ≠ "java/lang/invoke/MethodHandle" ∧ y.cls ≠ "java/lang/invoke/VarHandle" ∧ (parseMethodDescriptor y.desc).map (fun d => d.parameters.length) = some As.length)
    (hst : st = As.reverse ++ rest) (hrc : rm.cells = 0) (hrs : rm.slots = 0) (hR : rm.frames + 1 ≤ Rm.frames ∧ 8 + (maxL + 11) + rm.locals ≤ Rm.locals) (hcat : (rest.map fun v => v.category).sum ≤ 8) (hf : cells ≤ Rm.cells ∧ slots ≤ Rm.slots)
    (hdg : decode cc pc = .ok (.invokestatic idx, 3))
    (kk : ∀ (t : State) (locs1 : List Loc), B t → va_S (fun q => s.heap.size ≤ q) s.heap t.heap locs1 → W p l e Rm s m args below meth c t.heap locs1 cells slots Q (F0 m (pc + 3) ls (rv.toList ++ rest))) : W p l e Rm s m args below meth c H locs cells slots Q (F0 m pc ls st) := by
  exact mx_call (va_runS (As := As) (rest := rest) C hM (va_cwS As.length C.2.2.2.2 (mg_gS h0 h1) rfl hrc hrs hd hR) ⟨fun a U g mk q => ⟨q.1, mc_B.blind q.2⟩, fun U hU hW => ⟨rfl, by rw [hU]; exact hP, K.mvL hW (by rw [hU]; exact hS)⟩⟩ rfl rfl hsize hst (lv_room hcat) hdg hf) hS
    (fun q hq => by obtain ⟨i, hi, e⟩ := hq; rw [e]; exact hA i hi) (fun t locs1 hB hq hS1 => kk t locs1 hB hS1)
theorem ml_Vi {own : String} {idx maxL a k : Nat} {y : MethodName} {bc : ByteArray} {ret : Option FieldType} {rm : Room} {As st : List Value} {ci n0 : Nat} {Cn : String} {T : u_T} {fs : List Value} {I1 : Nat → Nat → Int32} {R1 : Nat → Nat → Option Nat} {r : Int32}
    (hM : Met l y (Cond.code y bc maxL ret :: mc_big) rm (va_Pc (.ref (w.2.2.1 a) :: As) (mc_B κ N w I R)) (mc_Q (some (.int r)) (mc_B κ N w I1 R1) (mc_A N w)) 0 0 (mc_A N w))
    (C : CallFix p m c cc nL s args mc_big own) (K : mc_K κ N w s) (hP : mc_P κ N w I R H) (hA : ∀ i, i < N → s.heap.size ≤ w.2.2.1 i) (hS : va_S (fun q => s.heap.size ≤ q) s.heap H locs) (hsize : ls.size = nL)
    (hk : κ a = k) (hk2 : k ≠ 17) (he : mc_Ei w k a (I a) (R a) = .inr (ci, fs)) (hc : vwCl[ci]? = some (Cn, T, n0))
    (h0 : Cond.methodLink own idx y ∈ mc_big) (h1 : Cond.instanceMethod y ∈ mc_big ∧ Cond.selects Cn y y ∈ mc_big ∧ Cond.initialized Cn ∈ mc_big ∧ Cond.code y bc maxL ret ∈ mc_big)
    (hd : y.cls = Cn ∧ y.cls ≠ "java/lang/invoke/MethodHandle" ∧ y.cls ≠ "java/lang/invoke/VarHandle" ∧ (parseMethodDescriptor y.desc).map (fun d => d.parameters.length) = some As.length)
    (hst : st = As.reverse ++ .ref (w.2.2.1 a) :: rest) (hrc : rm.cells = 0) (hrs : rm.slots = 0) (hR : rm.frames + 1 ≤ Rm.frames ∧ 8 + (maxL + 11) + rm.locals ≤ Rm.locals) (hcat : (rest.map fun v => v.category).sum ≤ 8) (hf : cells ≤ Rm.cells ∧ slots ≤ Rm.slots)
    (hdg : decode cc pc = .ok (.invokevirtual idx, 3))
    (kk : ∀ (H1 : Heap) (locs1 : List Loc), mc_P κ N w I1 R1 H1 → va_S (fun q => s.heap.size ≤ q) s.heap H1 locs1 → W p l e Rm s m args below meth c H1 locs1 cells slots Q (F0 m (pc + 3) ls (.int r :: rest))) : W p l e Rm s m args below meth c H locs cells slots Q (F0 m pc ls st) :=
  ml_V hM C K hP hA hS hsize hk hk2 he hc h0 h1 hd hst hrc hrs hR hcat hf hdg (fun t locs1 hB hS1 => kk t.heap locs1 hB.1 hS1)
theorem ml_Vz {own : String} {idx maxL a k : Nat} {y : MethodName} {bc : ByteArray} {ret : Option FieldType} {rm : Room} {As st : List Value} {ci n0 : Nat} {Cn : String} {T : u_T} {fs : List Value} {I1 : Nat → Nat → Int32} {R1 : Nat → Nat → Option Nat} {r : Int32} {X : Prop}
    (hM : Met l y (Cond.code y bc maxL ret :: mc_big) rm (va_Pc (.ref (w.2.2.1 a) :: As) (mc_B κ N w I R)) (mc_Q (some (.int r)) (fun t => mc_B κ N w I1 R1 t ∧ X) (mc_A N w)) 0 0 (mc_A N w))
    (C : CallFix p m c cc nL s args mc_big own) (K : mc_K κ N w s) (hP : mc_P κ N w I R H) (hA : ∀ i, i < N → s.heap.size ≤ w.2.2.1 i) (hS : va_S (fun q => s.heap.size ≤ q) s.heap H locs) (hsize : ls.size = nL)
    (hk : κ a = k) (hk2 : k ≠ 17) (he : mc_Ei w k a (I a) (R a) = .inr (ci, fs)) (hc : vwCl[ci]? = some (Cn, T, n0))
    (h0 : Cond.methodLink own idx y ∈ mc_big) (h1 : Cond.instanceMethod y ∈ mc_big ∧ Cond.selects Cn y y ∈ mc_big ∧ Cond.initialized Cn ∈ mc_big ∧ Cond.code y bc maxL ret ∈ mc_big)
    (hd : y.cls = Cn ∧ y.cls ≠ "java/lang/invoke/MethodHandle" ∧ y.cls ≠ "java/lang/invoke/VarHandle" ∧ (parseMethodDescriptor y.desc).map (fun d => d.parameters.length) = some As.length)
    (hst : st = As.reverse ++ .ref (w.2.2.1 a) :: rest) (hrc : rm.cells = 0) (hrs : rm.slots = 0) (hR : rm.frames + 1 ≤ Rm.frames ∧ 8 + (maxL + 11) + rm.locals ≤ Rm.locals) (hcat : (rest.map fun v => v.category).sum ≤ 8) (hf : cells ≤ Rm.cells ∧ slots ≤ Rm.slots)
    (hdg : decode cc pc = .ok (.invokevirtual idx, 3))
    (kk : ∀ (H1 : Heap) (locs1 : List Loc), mc_P κ N w I1 R1 H1 → X → va_S (fun q => s.heap.size ≤ q) s.heap H1 locs1 → W p l e Rm s m args below meth c H1 locs1 cells slots Q (F0 m (pc + 3) ls (.int r :: rest))) : W p l e Rm s m args below meth c H locs cells slots Q (F0 m pc ls st) :=
  ml_V hM C K hP hA hS hsize hk hk2 he hc h0 h1 hd hst hrc hrs hR hcat hf hdg (fun t locs1 hB hS1 => kk t.heap locs1 hB.1.1 hB.2 hS1)
theorem ml_Vj {own : String} {idx maxL a k : Nat} {y : MethodName} {bc : ByteArray} {ret : Option FieldType} {rm : Room} {As st : List Value} {ci n0 : Nat} {Cn : String} {T : u_T} {fs : List Value} {I1 : Nat → Nat → Int32} {R1 : Nat → Nat → Option Nat} {r : Int64}
    (hM : Met l y (Cond.code y bc maxL ret :: mc_big) rm (va_Pc (.ref (w.2.2.1 a) :: As) (mc_B κ N w I R)) (mc_Q (some (.long r)) (mc_B κ N w I1 R1) (mc_A N w)) 0 0 (mc_A N w))
    (C : CallFix p m c cc nL s args mc_big own) (K : mc_K κ N w s) (hP : mc_P κ N w I R H) (hA : ∀ i, i < N → s.heap.size ≤ w.2.2.1 i) (hS : va_S (fun q => s.heap.size ≤ q) s.heap H locs) (hsize : ls.size = nL)
    (hk : κ a = k) (hk2 : k ≠ 17) (he : mc_Ei w k a (I a) (R a) = .inr (ci, fs)) (hc : vwCl[ci]? = some (Cn, T, n0))
    (h0 : Cond.methodLink own idx y ∈ mc_big) (h1 : Cond.instanceMethod y ∈ mc_big ∧ Cond.selects Cn y y ∈ mc_big ∧ Cond.initialized Cn ∈ mc_big ∧ Cond.code y bc maxL ret ∈ mc_big)
    (hd : y.cls = Cn ∧ y.cls ≠ "java/lang/invoke/MethodHandle" ∧ y.cls ≠ "java/lang/invoke/VarHandle" ∧ (parseMethodDescriptor y.desc).map (fun d => d.parameters.length) = some As.length)
    (hst : st = As.reverse ++ .ref (w.2.2.1 a) :: rest) (hrc : rm.cells = 0) (hrs : rm.slots = 0) (hR : rm.frames + 1 ≤ Rm.frames ∧ 8 + (maxL + 11) + rm.locals ≤ Rm.locals) (hcat : (rest.map fun v => v.category).sum ≤ 8) (hf : cells ≤ Rm.cells ∧ slots ≤ Rm.slots)
    (hdg : decode cc pc = .ok (.invokevirtual idx, 3))
    (kk : ∀ (H1 : Heap) (locs1 : List Loc), mc_P κ N w I1 R1 H1 → va_S (fun q => s.heap.size ≤ q) s.heap H1 locs1 → W p l e Rm s m args below meth c H1 locs1 cells slots Q (F0 m (pc + 3) ls (.long r :: rest))) : W p l e Rm s m args below meth c H locs cells slots Q (F0 m pc ls st) :=
  ml_V hM C K hP hA hS hsize hk hk2 he hc h0 h1 hd hst hrc hrs hR hcat hf hdg (fun t locs1 hB hS1 => kk t.heap locs1 hB.1 hS1)
theorem ml_Si {own : String} {idx maxL : Nat} {y : MethodName} {bc : ByteArray} {ret : Option FieldType} {rm : Room} {As st : List Value} {I1 : Nat → Nat → Int32} {R1 : Nat → Nat → Option Nat} {r : Int32}
    (hM : Met l y (Cond.code y bc maxL ret :: mc_big) rm (va_Pc As (mc_B κ N w I R)) (mc_Q (some (.int r)) (mc_B κ N w I1 R1) (mc_A N w)) 0 0 (mc_A N w))
    (C : CallFix p m c cc nL s args mc_big own) (K : mc_K κ N w s) (hP : mc_P κ N w I R H) (hA : ∀ i, i < N → s.heap.size ≤ w.2.2.1 i) (hS : va_S (fun q => s.heap.size ≤ q) s.heap H locs) (hsize : ls.size = nL)
    (h0 : Cond.methodLink own idx y ∈ mc_big) (h1 : Cond.static y ∈ mc_big ∧ Cond.initialized y.cls ∈ mc_big ∧ Cond.code y bc maxL ret ∈ mc_big)
    (hd : y.cls ≠ "java/lang/invoke/MethodHandle" ∧ y.cls ≠ "java/lang/invoke/VarHandle" ∧ (parseMethodDescriptor y.desc).map (fun d => d.parameters.length) = some As.length)
    (hst : st = As.reverse ++ rest) (hrc : rm.cells = 0) (hrs : rm.slots = 0) (hR : rm.frames + 1 ≤ Rm.frames ∧ 8 + (maxL + 11) + rm.locals ≤ Rm.locals) (hcat : (rest.map fun v => v.category).sum ≤ 8) (hf : cells ≤ Rm.cells ∧ slots ≤ Rm.slots)
    (hdg : decode cc pc = .ok (.invokestatic idx, 3))
    (kk : ∀ (H1 : Heap) (locs1 : List Loc), mc_P κ N w I1 R1 H1 → va_S (fun q => s.heap.size ≤ q) s.heap H1 locs1 → W p l e Rm s m args below meth c H1 locs1 cells slots Q (F0 m (pc + 3) ls (.int r :: rest))) : W p l e Rm s m args below meth c H locs cells slots Q (F0 m pc ls st) :=
  ml_S hM C K hP hA hS hsize h0 h1 hd hst hrc hrs hR hcat hf hdg (fun t locs1 hB hS1 => kk t.heap locs1 hB.1 hS1)
theorem ml_Sz {own : String} {idx maxL : Nat} {y : MethodName} {bc : ByteArray} {ret : Option FieldType} {rm : Room} {As st : List Value} {I1 : Nat → Nat → Int32} {R1 : Nat → Nat → Option Nat} {r : Int32} {X : Prop}
    (hM : Met l y (Cond.code y bc maxL ret :: mc_big) rm (va_Pc As (mc_B κ N w I R)) (mc_Q (some (.int r)) (fun t => mc_B κ N w I1 R1 t ∧ X) (mc_A N w)) 0 0 (mc_A N w))
    (C : CallFix p m c cc nL s args mc_big own) (K : mc_K κ N w s) (hP : mc_P κ N w I R H) (hA : ∀ i, i < N → s.heap.size ≤ w.2.2.1 i) (hS : va_S (fun q => s.heap.size ≤ q) s.heap H locs) (hsize : ls.size = nL)
    (h0 : Cond.methodLink own idx y ∈ mc_big) (h1 : Cond.static y ∈ mc_big ∧ Cond.initialized y.cls ∈ mc_big ∧ Cond.code y bc maxL ret ∈ mc_big)
    (hd : y.cls ≠ "java/lang/invoke/MethodHandle" ∧ y.cls ≠ "java/lang/invoke/VarHandle" ∧ (parseMethodDescriptor y.desc).map (fun d => d.parameters.length) = some As.length)
    (hst : st = As.reverse ++ rest) (hrc : rm.cells = 0) (hrs : rm.slots = 0) (hR : rm.frames + 1 ≤ Rm.frames ∧ 8 + (maxL + 11) + rm.locals ≤ Rm.locals) (hcat : (rest.map fun v => v.category).sum ≤ 8) (hf : cells ≤ Rm.cells ∧ slots ≤ Rm.slots)
    (hdg : decode cc pc = .ok (.invokestatic idx, 3))
    (kk : ∀ (H1 : Heap) (locs1 : List Loc), mc_P κ N w I1 R1 H1 → X → va_S (fun q => s.heap.size ≤ q) s.heap H1 locs1 → W p l e Rm s m args below meth c H1 locs1 cells slots Q (F0 m (pc + 3) ls (.int r :: rest))) : W p l e Rm s m args below meth c H locs cells slots Q (F0 m pc ls st) :=
  ml_S hM C K hP hA hS hsize h0 h1 hd hst hrc hrs hR hcat hf hdg (fun t locs1 hB hS1 => kk t.heap locs1 hB.1.1 hB.2 hS1)
theorem ml_Sj {own : String} {idx maxL : Nat} {y : MethodName} {bc : ByteArray} {ret : Option FieldType} {rm : Room} {As st : List Value} {I1 : Nat → Nat → Int32} {R1 : Nat → Nat → Option Nat} {r : Int64}
    (hM : Met l y (Cond.code y bc maxL ret :: mc_big) rm (va_Pc As (mc_B κ N w I R)) (mc_Q (some (.long r)) (mc_B κ N w I1 R1) (mc_A N w)) 0 0 (mc_A N w))
    (C : CallFix p m c cc nL s args mc_big own) (K : mc_K κ N w s) (hP : mc_P κ N w I R H) (hA : ∀ i, i < N → s.heap.size ≤ w.2.2.1 i) (hS : va_S (fun q => s.heap.size ≤ q) s.heap H locs) (hsize : ls.size = nL)
    (h0 : Cond.methodLink own idx y ∈ mc_big) (h1 : Cond.static y ∈ mc_big ∧ Cond.initialized y.cls ∈ mc_big ∧ Cond.code y bc maxL ret ∈ mc_big)
    (hd : y.cls ≠ "java/lang/invoke/MethodHandle" ∧ y.cls ≠ "java/lang/invoke/VarHandle" ∧ (parseMethodDescriptor y.desc).map (fun d => d.parameters.length) = some As.length)
    (hst : st = As.reverse ++ rest) (hrc : rm.cells = 0) (hrs : rm.slots = 0) (hR : rm.frames + 1 ≤ Rm.frames ∧ 8 + (maxL + 11) + rm.locals ≤ Rm.locals) (hcat : (rest.map fun v => v.category).sum ≤ 8) (hf : cells ≤ Rm.cells ∧ slots ≤ Rm.slots)
    (hdg : decode cc pc = .ok (.invokestatic idx, 3))
    (kk : ∀ (H1 : Heap) (locs1 : List Loc), mc_P κ N w I1 R1 H1 → va_S (fun q => s.heap.size ≤ q) s.heap H1 locs1 → W p l e Rm s m args below meth c H1 locs1 cells slots Q (F0 m (pc + 3) ls (.long r :: rest))) : W p l e Rm s m args below meth c H locs cells slots Q (F0 m pc ls st) :=
  ml_S hM C K hP hA hS hsize h0 h1 hd hst hrc hrs hR hcat hf hdg (fun t locs1 hB hS1 => kk t.heap locs1 hB.1 hS1)
end MLW
/-- cell: a place of the script, or a number made of the place -/
def mz_cell (L : Nat) (xs : Nat → Int32) (k : Int32) : Int32 := if nI L ≤ k then ((919066857 * (k + 1)) + 455884111) else xs k.toNatClampNeg
theorem ct_cell (l : Launch) {b L : Nat} {xs : Nat → Int32} {k : Int32} (hL : L ≤ 260) (hk : ¬ k < 0) : Met l yL_cell (Cond.code yL_cell cL_cell 2 (some .int) :: mc_big) ({ frames := 0, cells := 0, slots := 0, locals := 0 } : Room) (va_Pc [.ref b, .int k] (fun U => va_X b L xs U U.heap ∧ b < U.heap.size)) (mc_Q (some (.int (mz_cell L xs k))) (fun _ => True) (fun _ => False)) 0 0 (fun _ => False) := by
  refine Met.ofW (cc := cL_cell) (maxL := 2) (ret := (some .int)) (by decide) rfl ?_
  intro p e s m args below meth c s₁ B hml hv
  obtain ⟨rfl, hX, hbl⟩ := hv
  have hown : s.vm.findClass RL = some m.cls := findClass_of_methodNamed B.named
  have C : CallFix p m c cL_cell 2 s _ mc_big RL := ⟨B.exec, B.bytes, hml, hown, fun w hw => atoms_spec B.pre w (List.mem_cons_of_mem _ hw)⟩
  have hx := C.1
  have hb := C.2.1
  have hr := B.returns
  have hlk := B.notSynchronized
  have hS : va_S (fun _ => False) s.heap s.heap [] := va_S.rf
  have hl := lv_entry ([.ref b, .int k]) (n := 2) (Nat.le_of_ble_eq_true rfl)
  rw [lg_entry_eq]
  generalize (lg_sl ([.ref b, .int k]) ++ List.replicate (2 - (lg_sl ([.ref b, .int k])).length) Slot.unset).toArray = ls at hl ⊢
  have hl : lv_has ls 2 [(0, .ref b), (1, .int k)] := hl
  refine lv_iload_n hx hb dL_cell_0 rfl (lv_at hl 1 rfl) ?_
  refine lv_aload_n hx hb dL_cell_1 rfl (lv_at hl 0 rfl) ?_
  refine va_slen hx hb hX hbl (fun h => h) hS dL_cell_2 ?_
  refine lv_icmp_ge (tgt := 12) hx hb dL_cell_3 (by decide) (fun c0 => ?_) (fun c0 => ?_)
  · refine lv_ldc hx hb C.2.2.2.1 (C.2.2.2.2 _ wk_L_7) dL_cell_12 ?_
    refine lv_iload_n hx hb dL_cell_14 rfl (lv_at hl 1 rfl) ?_
    refine lv_iconst (v := 1) hx hb dL_cell_15 (by decide) ?_
    refine lv_iadd hx hb dL_cell_16 ?_
    refine lv_imul hx hb dL_cell_17 ?_
    refine lv_ldc hx hb C.2.2.2.1 (C.2.2.2.2 _ wk_L_8) dL_cell_18 ?_
    refine lv_iadd hx hb dL_cell_20 ?_
    refine mv_top (y := mz_cell L xs k) (if_pos c0) ?_
    exact W.iret hx hb hr (fun t ht hW => ⟨rfl, trivial, hS.F ht⟩) hS.2.2 dL_cell_21 hlk
  · have hin : vp_in k L := by
      obtain ⟨j, hj, rfl⟩ := nI_of hk
      have hlt : j < L := by
        have h1 : ¬ nI L ≤ nI j := c0
        rw [nI_leI (by omega) hj] at h1
        omega
      exact vp_in_nI (n := j) hlt (by omega)
    refine lv_aload_n hx hb dL_cell_6 rfl (lv_at hl 0 rfl) ?_
    refine lv_iload_n hx hb dL_cell_7 rfl (lv_at hl 1 rfl) ?_
    refine va_sld hx hb hX hbl (fun h => h) hS hin dL_cell_8 ?_
    refine lv_goto (tgt := 21) hx hb dL_cell_9 (by decide) ?_
    refine mv_top (y := mz_cell L xs k) (if_neg c0) ?_
    exact W.iret hx hb hr (fun t ht hW => ⟨rfl, trivial, hS.F ht⟩) hS.2.2 dL_cell_21 hlk
section MLC
variable {p : Program} {l : Launch} {e : Env} {Rm : Room} {s : State} {m : MethodId} {args : Array Value} {below : List Frame} {meth : Method} {c : Code} {H : Heap} {locs : List Loc} {cells slots : Nat} {Q : State → Prop} {cc : ByteArray} {pc nL : Nat} {ls : Array Slot} {rest : List Value} {κ : Nat → Nat} {N : Nat} {w : mc_w} {I : Nat → Nat → Int32} {R : Nat → Nat → Option Nat}
theorem ml_cell {idx b L : Nat} {xs : Nat → Int32} {k : Int32} (C : CallFix p m c cc nL s args mc_big RL) (hP : mc_P κ N w I R H) (hX : va_X b L xs s s.heap) (hbl : b < s.heap.size) (hL : L ≤ 260) (hS : va_S (fun q => s.heap.size ≤ q) s.heap H locs) (hsize : ls.size = nL) (hk : ¬ k < 0) (h0 : Cond.methodLink RL idx yL_cell ∈ mc_big) (hR : 1 ≤ Rm.frames ∧ 8 + (2 + 11) + 0 ≤ Rm.locals) (hcat : (rest.map fun v => v.category).sum ≤ 8) (hf : cells ≤ Rm.cells ∧ slots ≤ Rm.slots)
    (hdg : decode cc pc = .ok (.invokestatic idx, 3)) (kk : ∀ (H1 : Heap) (locs1 : List Loc), mc_P κ N w I R H1 → va_S (fun q => s.heap.size ≤ q) s.heap H1 locs1 → W p l e Rm s m args below meth c H1 locs1 cells slots Q (F0 m (pc + 3) ls (.int (mz_cell L xs k) :: rest))) : W p l e Rm s m args below meth c H locs cells slots Q (F0 m pc ls (.int k :: .ref b :: rest)) :=
  mx_call (va_runS (As := [.ref b, .int k]) (rest := rest) C (ct_cell l (xs := xs) hL hk) (va_cwS 2 C.2.2.2.2 (mg_gS h0 ⟨wt_L_cell, wn_L, wc_L_cell⟩) rfl rfl rfl ⟨by decide +kernel, by decide +kernel, by decide +kernel⟩ hR) ⟨fun a U g mk q => ⟨q.1, va_X.moved (u := U) (U := U.calling g mk a) (Vm.Alike.refl U.vm) q.2.1, q.2.2⟩, fun U hU hW => ⟨rfl, by rw [hU]; exact (hX.kept (hS.2.1 b hbl (Nat.not_le.mpr hbl))).moved hW.alike, by rw [hU]; exact Nat.lt_of_lt_of_le hbl hS.1⟩⟩ rfl rfl hsize rfl (lv_room hcat) hdg hf) hS
    (fun q hq => hq.elim) (fun t locs1 hB hq hS1 => kk t.heap locs1 (hP.kept (fun j hj hlt => hq _ hlt (fun z => z))) hS1)
end MLC

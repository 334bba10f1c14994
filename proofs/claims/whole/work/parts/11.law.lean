/-! THE CLAIM OUT OF ONE WALK OF THE LAW'S BODY. Your part is whole_start (and what it stands on); all else here is the same for every law, but numbers. -/
def R_law : String := "MessengerCastsLaw"
def lw_P (b : Addr) (xs : List Int32) (args : Array Value) (s : State) : Prop := args = #[.ref b] ∧ s.IntsAt b xs ∧ xs.length ≤ 2048 ∧ (Jvm.Cond.and given_1 narrow_1).before args s = true
def lw_Q (_ : Array Value) (s : State) (o : Outcome) (t : State) : Prop := o = .returned (some (.int 1)) ∧ Framed s o t [] 600000 7302250
def lw_Z (below : List Frame) (a : Array Value) (s : State) : State → Prop := fun t => ∃ o, t.status = .running ∧ Ended t below o ∧ lw_Q a s o t
/-- the law's own end, with 1 on the stack, nothing written that was there before, its room as the claim has it -/
theorem lw_ret {p : Program} {l : Launch} {e : Env} {s : State} {m : MethodId} {below : List Frame} {meth : Method} {c : Code} {b : Nat} (hx : p.tables.exec = Jvm.exec) (hb : c.code = code) (hr : meth.sig.returnType = ret) (hlocks : meth.locks = false) {pc : Nat} {H : Heap} {ls : Array Slot} (hdg : decode code pc = .ok (.ireturn, 1)) : W p l e room_1 s m #[Value.ref b] below meth c H [] 600000 7302250 (lw_Z below #[Value.ref b] s) (F0 m pc ls [.int 1]) := by
  intro T hT X
  obtain ⟨fs, hret, hrun, hended, hW, hframe⟩ := X.leave (v := some (.int 1)) (hlocks := hlocks) (fun h => by rw [hr] at h; cases h)
  have hmeth' : T.vm.method? m = some meth := X.method'
  refine ⟨T.setFrames fs, ?_, .returned (some (.int 1)), hrun, hended, rfl, ⟨_, rfl⟩, hW, hframe⟩
  jvm_step X.here [X.here.top, hx, hb, hdg, hmeth', hr, ret, narrow_b1]
  (try refine ⟨rfl, ?_⟩); (try refine ⟨rfl, ?_⟩)
  first | (intro acts; rw [hret _ acts rfl rfl rfl]) | rw [hret _ _ rfl rfl rfl]
  exact Steps.refl _
/-- what holds at the law's entry: the machine, the code, the tables' words (any of lw_tbl by 'hts w (by decide +kernel)'), the script of L ints xs at the cell b, what the Statement gives of the start (any of its parts by flat_of_before) -/
def lw_At (p : Program) (s : State) (m : MethodId) (meth : Method) (c : Code) (b L : Nat) (xs : Nat → Int32) : Prop :=
  p.tables.exec = Jvm.exec ∧ c.code = code ∧ meth.sig.returnType = ret ∧ c.maxLocals = 4 ∧ s.vm.findClass R_law = some m.cls ∧ (∀ w ∈ lw_tbl, w.before #[Value.ref b] s = true) ∧ va_X b L xs s s.heap ∧ b < s.heap.size ∧ meth.locks = false ∧ (Jvm.Cond.and given_1 narrow_1).before #[Value.ref b] s = true
/-! what is owed of each operation: class and reference answer alike, and stay in the relation Rl -/
def oq_pay (F : Nat) (Rl : (Nat → Nat → Int32) → (Nat → Nat → Option Nat) → (Nat → Nat → Int32) → Prop) : Prop := ∀ (I : Nat → Nat → Int32) (R : Nat → Nat → Option Nat) (J : Nat → Nat → Int32) (x1 : Int32), Rl I R J → ∃ (I1 : Nat → Nat → Int32) (R1 : Nat → Nat → Option Nat) (J1 : Nat → Nat → Int32) (r : Int32), mi_X8_pay F I R x1 = some (I1, R1, r) ∧ mi_X9_pay F J x1 = some (J1, r) ∧ Rl I1 R1 J1
def oq_setSlope (F : Nat) (Rl : (Nat → Nat → Int32) → (Nat → Nat → Option Nat) → (Nat → Nat → Int32) → Prop) : Prop := ∀ (I : Nat → Nat → Int32) (R : Nat → Nat → Option Nat) (J : Nat → Nat → Int32) (x1 : Int32), Rl I R J → ∃ (I1 : Nat → Nat → Int32) (R1 : Nat → Nat → Option Nat) (J1 : Nat → Nat → Int32) (r : Int32), mi_X8_setSlope F I R x1 = some (I1, R1, r) ∧ mi_X9_setSlope F J x1 = some (J1, r) ∧ Rl I1 R1 J1
def oq_weight (F : Nat) (Rl : (Nat → Nat → Int32) → (Nat → Nat → Option Nat) → (Nat → Nat → Int32) → Prop) : Prop := ∀ (I : Nat → Nat → Int32) (R : Nat → Nat → Option Nat) (J : Nat → Nat → Int32) (x1 : Int32), Rl I R J → (x1 = 0 ∨ x1 = 1) → ∃ (I1 : Nat → Nat → Int32) (R1 : Nat → Nat → Option Nat) (J1 : Nat → Nat → Int32) (r : Int32), mi_X8_weight F I R x1 = some (I1, R1, r) ∧ mi_X9_weight F J x1 = some (J1, r) ∧ Rl I1 R1 J1
def oq_clamp (F : Nat) (Rl : (Nat → Nat → Int32) → (Nat → Nat → Option Nat) → (Nat → Nat → Int32) → Prop) : Prop := ∀ (I : Nat → Nat → Int32) (R : Nat → Nat → Option Nat) (J : Nat → Nat → Int32) (x1 : Int32), Rl I R J → (x1 = 0 ∨ x1 = 1) → ∃ (I1 : Nat → Nat → Int32) (R1 : Nat → Nat → Option Nat) (J1 : Nat → Nat → Int32) (r : Int32), mi_X8_clamp F I R x1 = some (I1, R1, r) ∧ mi_X9_clamp F J x1 = some (J1, r) ∧ Rl I1 R1 J1
def oq_takeOff (F : Nat) (Rl : (Nat → Nat → Int32) → (Nat → Nat → Option Nat) → (Nat → Nat → Int32) → Prop) : Prop := ∀ (I : Nat → Nat → Int32) (R : Nat → Nat → Option Nat) (J : Nat → Nat → Int32) (x1 : Int32), Rl I R J → ∃ (I1 : Nat → Nat → Int32) (R1 : Nat → Nat → Option Nat) (J1 : Nat → Nat → Int32) (r : Int32), mi_X8_takeOff F I R x1 = some (I1, R1, r) ∧ mi_X9_takeOff F J x1 = some (J1, r) ∧ Rl I1 R1 J1
def oq_send (F : Nat) (Rl : (Nat → Nat → Int32) → (Nat → Nat → Option Nat) → (Nat → Nat → Int32) → Prop) : Prop := ∀ (I : Nat → Nat → Int32) (R : Nat → Nat → Option Nat) (J : Nat → Nat → Int32), Rl I R J → ∃ (I1 : Nat → Nat → Int32) (R1 : Nat → Nat → Option Nat) (J1 : Nat → Nat → Int32) (r : Int32), mi_X8_send F I R = some (I1, R1, r) ∧ mi_X9_send F J = some (J1, r) ∧ Rl I1 R1 J1
def oq_pass (F : Nat) (Rl : (Nat → Nat → Int32) → (Nat → Nat → Option Nat) → (Nat → Nat → Int32) → Prop) : Prop := ∀ (I : Nat → Nat → Int32) (R : Nat → Nat → Option Nat) (J : Nat → Nat → Int32) (x1 : Int32), Rl I R J → ∃ (I1 : Nat → Nat → Int32) (R1 : Nat → Nat → Option Nat) (J1 : Nat → Nat → Int32) (r : Int32), mi_X8_pass F I R x1 = some (I1, R1, r) ∧ mi_X9_pass F J x1 = some (J1, r) ∧ Rl I1 R1 J1
def oq_setWater (F : Nat) (Rl : (Nat → Nat → Int32) → (Nat → Nat → Option Nat) → (Nat → Nat → Int32) → Prop) : Prop := ∀ (I : Nat → Nat → Int32) (R : Nat → Nat → Option Nat) (J : Nat → Nat → Int32) (x1 : Int32) (x2 : Int32) (x3 : Int32), Rl I R J → ∃ (I1 : Nat → Nat → Int32) (R1 : Nat → Nat → Option Nat) (J1 : Nat → Nat → Int32) (r : Int32), mi_X8_setWater F I R x1 x2 x3 = some (I1, R1, r) ∧ mi_X9_setWater F J x1 x2 x3 = some (J1, r) ∧ Rl I1 R1 J1
def oq_set (F : Nat) (Rl : (Nat → Nat → Int32) → (Nat → Nat → Option Nat) → (Nat → Nat → Int32) → Prop) : Prop := ∀ (I : Nat → Nat → Int32) (R : Nat → Nat → Option Nat) (J : Nat → Nat → Int32) (x1 : Int32) (x2 : Int32), Rl I R J → ∃ (I1 : Nat → Nat → Int32) (R1 : Nat → Nat → Option Nat) (J1 : Nat → Nat → Int32) (r : Int32), mi_X8_set F I R x1 x2 = some (I1, R1, r) ∧ mi_X9_set F J x1 x2 = some (J1, r) ∧ Rl I1 R1 J1
def oq_type (F : Nat) (Rl : (Nat → Nat → Int32) → (Nat → Nat → Option Nat) → (Nat → Nat → Int32) → Prop) : Prop := ∀ (I : Nat → Nat → Int32) (R : Nat → Nat → Option Nat) (J : Nat → Nat → Int32) (x1 : Int32), Rl I R J → (∃ z : Int32, x1 = (z.toUInt32 % 65536).toInt32) → ∃ (I1 : Nat → Nat → Int32) (J1 : Nat → Nat → Int32) (r : Int32), mi_X8_type I x1 = some (I1, r) ∧ mi_X9_type J x1 = some (J1, r) ∧ Rl I1 R J1
def oq_clearText (F : Nat) (Rl : (Nat → Nat → Int32) → (Nat → Nat → Option Nat) → (Nat → Nat → Int32) → Prop) : Prop := ∀ (I : Nat → Nat → Int32) (R : Nat → Nat → Option Nat) (J : Nat → Nat → Int32), Rl I R J → ∃ (I1 : Nat → Nat → Int32) (J1 : Nat → Nat → Int32) (r : Int32), mi_X8_clearText I = (I1, r) ∧ mi_X9_clearText J = (J1, r) ∧ Rl I1 R J1
def oq_perform (F : Nat) (Rl : (Nat → Nat → Int32) → (Nat → Nat → Option Nat) → (Nat → Nat → Int32) → Prop) : Prop := ∀ (I : Nat → Nat → Int32) (R : Nat → Nat → Option Nat) (J : Nat → Nat → Int32), Rl I R J → ∃ (I1 : Nat → Nat → Int32) (R1 : Nat → Nat → Option Nat) (J1 : Nat → Nat → Int32) (r : Int32), mi_X8_perform F I R = some (I1, R1, r) ∧ mi_X9_perform F J = some (J1, r) ∧ Rl I1 R1 J1
def oq_stopped (F : Nat) (Rl : (Nat → Nat → Int32) → (Nat → Nat → Option Nat) → (Nat → Nat → Int32) → Prop) : Prop := ∀ (I : Nat → Nat → Int32) (R : Nat → Nat → Option Nat) (J : Nat → Nat → Int32) (x1 : Int32), Rl I R J → ∃ (r : Int32), mi_X8_stopped I x1 = r ∧ mi_X9_stopped J x1 = r ∧ Rl I R J
def oq_undo (F : Nat) (Rl : (Nat → Nat → Int32) → (Nat → Nat → Option Nat) → (Nat → Nat → Int32) → Prop) : Prop := ∀ (I : Nat → Nat → Int32) (R : Nat → Nat → Option Nat) (J : Nat → Nat → Int32), Rl I R J → ∃ (I1 : Nat → Nat → Int32) (J1 : Nat → Nat → Int32) (r : Int32), mi_X8_undo F I R = some (I1, r) ∧ mi_X9_undo F J = some (J1, r) ∧ Rl I1 R J1
def oq_keep (F : Nat) (Rl : (Nat → Nat → Int32) → (Nat → Nat → Option Nat) → (Nat → Nat → Int32) → Prop) : Prop := ∀ (I : Nat → Nat → Int32) (R : Nat → Nat → Option Nat) (J : Nat → Nat → Int32), Rl I R J → ∃ (I1 : Nat → Nat → Int32) (J1 : Nat → Nat → Int32) (r : Int32), mi_X8_keep F I R = some (I1, r) ∧ mi_X9_keep F J = some (J1, r) ∧ Rl I1 R J1
def oq_restore (F : Nat) (Rl : (Nat → Nat → Int32) → (Nat → Nat → Option Nat) → (Nat → Nat → Int32) → Prop) : Prop := ∀ (I : Nat → Nat → Int32) (R : Nat → Nat → Option Nat) (J : Nat → Nat → Int32), Rl I R J → ∃ (I1 : Nat → Nat → Int32) (R1 : Nat → Nat → Option Nat) (J1 : Nat → Nat → Int32) (r : Int32), mi_X8_restore F I R = some (I1, R1, r) ∧ mi_X9_restore F J = some (J1, r) ∧ Rl I1 R1 J1
def oq_bottle (F : Nat) (Rl : (Nat → Nat → Int32) → (Nat → Nat → Option Nat) → (Nat → Nat → Int32) → Prop) : Prop := ∀ (I : Nat → Nat → Int32) (R : Nat → Nat → Option Nat) (J : Nat → Nat → Int32) (x1 : Int32) (x2 : Int32), Rl I R J → ∃ (r : Int32), mi_X8_bottle I R x1 x2 = some r ∧ mi_X9_bottle J x1 x2 = some r ∧ Rl I R J
def oq_messenger (F : Nat) (Rl : (Nat → Nat → Int32) → (Nat → Nat → Option Nat) → (Nat → Nat → Int32) → Prop) : Prop := ∀ (I : Nat → Nat → Int32) (R : Nat → Nat → Option Nat) (J : Nat → Nat → Int32) (x1 : Int32) (x2 : Int32), Rl I R J → ∃ (r : Int32), mi_X8_messenger I x1 x2 = some r ∧ mi_X9_messenger J x1 x2 = some r ∧ Rl I R J
def oq_layer (F : Nat) (Rl : (Nat → Nat → Int32) → (Nat → Nat → Option Nat) → (Nat → Nat → Int32) → Prop) : Prop := ∀ (I : Nat → Nat → Int32) (R : Nat → Nat → Option Nat) (J : Nat → Nat → Int32) (x1 : Int32) (x2 : Int32), Rl I R J → ∃ (r : Int32), mi_X8_layer F I R x1 x2 = some r ∧ mi_X9_layer F J x1 x2 = some r ∧ Rl I R J
def oq_depth (F : Nat) (Rl : (Nat → Nat → Int32) → (Nat → Nat → Option Nat) → (Nat → Nat → Int32) → Prop) : Prop := ∀ (I : Nat → Nat → Int32) (R : Nat → Nat → Option Nat) (J : Nat → Nat → Int32) (x1 : Int32) (x2 : Int32), Rl I R J → ∃ (r : Int32), mi_X8_depth I x1 x2 = some r ∧ mi_X9_depth x1 x2 = r ∧ Rl I R J
def oq_reason (F : Nat) (Rl : (Nat → Nat → Int32) → (Nat → Nat → Option Nat) → (Nat → Nat → Int32) → Prop) : Prop := ∀ (I : Nat → Nat → Int32) (R : Nat → Nat → Option Nat) (J : Nat → Nat → Int32) (x1 : Int32), Rl I R J → ∃ (I1 : Nat → Nat → Int32) (J1 : Nat → Nat → Int32) (r : Int32), mi_X8_reason F I R x1 = some (I1, r) ∧ mi_X9_reason F J x1 = some (J1, r) ∧ Rl I1 R J1
def oq_shutIn (F : Nat) (Rl : (Nat → Nat → Int32) → (Nat → Nat → Option Nat) → (Nat → Nat → Int32) → Prop) : Prop := ∀ (I : Nat → Nat → Int32) (R : Nat → Nat → Option Nat) (J : Nat → Nat → Int32) (x1 : Int32), Rl I R J → ∃ (I1 : Nat → Nat → Int32) (J1 : Nat → Nat → Int32) (r : Int32), mi_X8_shutIn F I R x1 = some (I1, r) ∧ mi_X9_shutIn F J x1 = some (J1, r) ∧ Rl I1 R J1
def oq_quietIn (F : Nat) (Rl : (Nat → Nat → Int32) → (Nat → Nat → Option Nat) → (Nat → Nat → Int32) → Prop) : Prop := ∀ (I : Nat → Nat → Int32) (R : Nat → Nat → Option Nat) (J : Nat → Nat → Int32), Rl I R J → ∃ (I1 : Nat → Nat → Int32) (J1 : Nat → Nat → Int32) (r : Int32), mi_X8_quietIn F I R = some (I1, r) ∧ mi_X9_quietIn F J = some (J1, r) ∧ Rl I1 R J1
def oq_worst (F : Nat) (Rl : (Nat → Nat → Int32) → (Nat → Nat → Option Nat) → (Nat → Nat → Int32) → Prop) : Prop := ∀ (I : Nat → Nat → Int32) (R : Nat → Nat → Option Nat) (J : Nat → Nat → Int32), Rl I R J → ∃ (r : Int32), mi_X8_worst F I R = some r ∧ mi_X9_worst F J = some r ∧ Rl I R J
def oq_count (F : Nat) (Rl : (Nat → Nat → Int32) → (Nat → Nat → Option Nat) → (Nat → Nat → Int32) → Prop) : Prop := ∀ (I : Nat → Nat → Int32) (R : Nat → Nat → Option Nat) (J : Nat → Nat → Int32) (x1 : Int32), Rl I R J → ∃ (r : Int32), mi_X8_count F I R x1 = some r ∧ mi_X9_count F J x1 = some r ∧ Rl I R J
def mz_ops (F : Nat) (Rl : (Nat → Nat → Int32) → (Nat → Nat → Option Nat) → (Nat → Nat → Int32) → Prop) : Prop := oq_pay F Rl ∧ oq_setSlope F Rl ∧ oq_weight F Rl ∧ oq_clamp F Rl ∧ oq_takeOff F Rl ∧ oq_send F Rl ∧ oq_pass F Rl ∧ oq_setWater F Rl ∧ oq_set F Rl ∧ oq_type F Rl ∧ oq_clearText F Rl ∧ oq_perform F Rl ∧ oq_stopped F Rl ∧ oq_undo F Rl ∧ oq_keep F Rl ∧ oq_restore F Rl ∧ oq_bottle F Rl ∧ oq_messenger F Rl ∧ oq_layer F Rl ∧ oq_depth F Rl ∧ oq_reason F Rl ∧ oq_shutIn F Rl ∧ oq_quietIn F Rl ∧ oq_worst F Rl ∧ oq_count F Rl
theorem mc_P.kept {κ : Nat → Nat} {N : Nat} {w : mc_w} {I : Nat → Nat → Int32} {R : Nat → Nat → Option Nat} {H H1 : Heap} (h : mc_P κ N w I R H) (hq : ∀ i, i < N → w.2.2.1 i < H.size → H1[w.2.2.1 i]? = H[w.2.2.1 i]?) : mc_P κ N w I R H1 := by
  refine ⟨fun k q hk => ?_, h.2⟩
  have h1 := h.1 k q hk
  have hlt := h1.lt
  have hkN : k < N := by
    have := (List.getElem?_eq_some_iff.mp hk).1
    simpa [mc_gW] using this
  have hq1 : q.1 = w.2.2.1 k := by
    rw [mc_gW_get hkN] at hk
    cases hk
    rfl
  refine h1.kept ?_
  rw [hq1] at hlt ⊢
  exact hq k hkN hlt
theorem mc_K.mvL {κ : Nat → Nat} {N : Nat} {w : mc_w} {s t : State} {locs : List Loc} (h : mc_K κ N w s) (hW : s.WarmedH t.vm) (hS : va_S (fun q => s.heap.size ≤ q) s.heap t.heap locs) : mc_K κ N w t :=
  ⟨h.1.moved hW.alike, h.2.1, h.2.2.1, (h.2.2.2.1.moved hW.alike).kept (fun a h1 _ => hS.2.1 a h1 (Nat.not_le.mpr h1)), (h.2.2.2.2.1.moved hW.alike).kept (fun a h1 _ => hS.2.1 a h1 (Nat.not_le.mpr h1)), h.2.2.2.2.2.warm hW⟩
section MLW
variable {p : Program} {l : Launch} {e : Env} {Rm : Room} {s : State} {m : MethodId} {args : Array Value} {below : List Frame} {meth : Method} {c : Code} {H : Heap} {locs : List Loc} {cells slots : Nat} {Q : State → Prop} {cc : ByteArray} {pc nL : Nat} {ls : Array Slot} {rest : List Value} {κ κ2 : Nat → Nat} {N N2 : Nat} {w w2 : mc_w} {I J : Nat → Nat → Int32} {R R2 : Nat → Nat → Option Nat}
theorem ml_V {own : String} {idx maxL a k : Nat} {y : MethodName} {bc : ByteArray} {ret : Option FieldType} {rm : Room} {As st : List Value} {ci n0 : Nat} {Cn : String} {T : u_T} {fs : List Value} {I1 : Nat → Nat → Int32} {R1 : Nat → Nat → Option Nat} {r : Int32}
    (hM : Met l y (Cond.code y bc maxL ret :: mc_big) rm (va_Pc (.ref (w.2.2.1 a) :: As) (mc_B κ N w I R)) (mc_Q (some (.int r)) (mc_B κ N w I1 R1) (mc_A N w)) 0 0 (mc_A N w))
    (C : CallFix p m c cc nL s args mc_big own) (K : mc_K κ N w s) (hP : mc_P κ N w I R H) (hP2 : mc_P κ2 N2 w2 J R2 H) (hdis : ∀ i j, i < N → j < N2 → w.2.2.1 i ≠ w2.2.2.1 j) (hA : ∀ i, i < N → s.heap.size ≤ w.2.2.1 i) (hS : va_S (fun q => s.heap.size ≤ q) s.heap H locs) (hsize : ls.size = nL)
    (hk : κ a = k) (hk2 : k ≠ 17) (he : mc_Ei w k a (I a) (R a) = .inr (ci, fs)) (hc : vwCl[ci]? = some (Cn, T, n0))
    (h0 : Cond.methodLink own idx y ∈ mc_big) (h1 : Cond.instanceMethod y ∈ mc_big ∧ Cond.selects Cn y y ∈ mc_big ∧ Cond.initialized Cn ∈ mc_big ∧ Cond.code y bc maxL ret ∈ mc_big)
    (hd : y.cls = Cn ∧ y.cls ≠ "java/lang/invoke/MethodHandle" ∧ y.cls ≠ "java/lang/invoke/VarHandle" ∧ (parseMethodDescriptor y.desc).map (fun d => d.parameters.length) = some As.length)
    (hst : st = As.reverse ++ .ref (w.2.2.1 a) :: rest) (hrc : rm.cells = 0) (hrs : rm.slots = 0) (hR : rm.frames + 1 ≤ Rm.frames ∧ 8 + (maxL + 11) + rm.locals ≤ Rm.locals) (hcat : (rest.map fun v => v.category).sum ≤ 8) (hf : cells ≤ Rm.cells ∧ slots ≤ Rm.slots)
    (hdg : decode cc pc = .ok (.invokevirtual idx, 3))
    (kk : ∀ (H1 : Heap) (locs1 : List Loc), mc_P κ N w I1 R1 H1 → mc_P κ2 N2 w2 J R2 H1 → va_S (fun q => s.heap.size ≤ q) s.heap H1 locs1 → W p l e Rm s m args below meth c H1 locs1 cells slots Q (F0 m (pc + 3) ls (.int r :: rest))) : W p l e Rm s m args below meth c H locs cells slots Q (F0 m pc ls st) := by
  have hat := mc_at (I := I) (R := R) K hk hk2
  rw [he] at hat
  exact mx_call (va_runV (As := As) (rest := rest) C hM (cwV As.length C.2.2.2.2 (mg_gV h0 h1) rfl hrc hrs hd hR) ⟨fun a U g mk q => ⟨q.1, mc_B.blind q.2⟩, va_recv K.1 hP.1 hc hat, fun U hU hW => ⟨rfl, by rw [hU]; exact hP, K.mvL hW (by rw [hU]; exact hS)⟩⟩ rfl rfl hsize hst (lv_room hcat) hdg hf) hS
    (fun q hq => by obtain ⟨i, hi, e⟩ := hq; rw [e]; exact hA i hi)
    (fun t locs1 hB hq hS1 => kk t.heap locs1 hB.1 (hP2.kept (fun j hj hlt => hq _ hlt (fun hz => by obtain ⟨i, hi, e⟩ := hz; exact hdis i j hi hj e.symm))) hS1)
end MLW
set_option maxHeartbeats 4000000 in
set_option maxRecDepth 100000 in
theorem lc_pay {p : Program} {e : Env} {s : State} {m : MethodId} {below : List Frame} {meth : Method} {c : Code} (l : Launch) {b L : Nat} {xs : Nat → Int32} (hL : L ≤ 2048) (C : CallFix p m c code 4 s #[Value.ref b] mc_big RL) (hX : va_X b L xs s s.heap) (hbl : b < s.heap.size) {w1 w2 : mc_w} (K1 : mc_K mc_k 152 w1 s) (K2 : mc_K mr_k 3 w2 s) (hd1 : ∀ i j, i < 152 → j < 3 → w1.2.2.1 i ≠ w2.2.2.1 j) (hA1 : ∀ i, i < 152 → s.heap.size ≤ w1.2.2.1 i) (hA2 : ∀ i, i < 3 → s.heap.size ≤ w2.2.2.1 i) {R2 : Nat → Nat → Option Nat} {F : Nat} {Rl : (Nat → Nat → Int32) → (Nat → Nat → Option Nat) → (Nat → Nat → Int32) → Prop} (ho : mz_ops F Rl) {i : Nat} (hi : i + 4 ≤ L) (ih : ∀ (I : Nat → Nat → Int32) (R : Nat → Nat → Option Nat) (J : Nat → Nat → Int32) (H : Heap) (locs : List Loc) (ls : Array Slot), Rl I R J → mc_P mc_k 152 w1 I R H → mc_P mr_k 3 w2 J R2 H → va_S (fun q => s.heap.size ≤ q) s.heap H locs → lv_has ls 4 [(0, .ref b), (1, .ref (w1.2.2.1 144)), (2, .ref (w2.2.2.1 0)), (3, .int (nI i))] → W p l e room_1 s m #[Value.ref b] below meth c H locs 155 3064 (lw_Z below #[Value.ref b] s) (F0 m 747 ls [])) : ∀ {I : Nat → Nat → Int32} {R : Nat → Nat → Option Nat} {J : Nat → Nat → Int32} {H : Heap} {locs : List Loc} {ls : Array Slot}, Rl I R J → mc_P mc_k 152 w1 I R H → mc_P mr_k 3 w2 J R2 H → va_S (fun q => s.heap.size ≤ q) s.heap H locs → lv_has ls 4 [(0, .ref b), (1, .ref (w1.2.2.1 144)), (2, .ref (w2.2.2.1 0)), (3, .int (nI i))] → W p l e room_1 s m #[Value.ref b] below meth c H locs 155 3064 (lw_Z below #[Value.ref b] s) (F0 m 148 ls []) := by
  intro I R J H locs ls hR hP hP2 hS hl
  have hx := C.1
  have hb := C.2.1
  have hbA : ¬ (fun q : Nat => s.heap.size ≤ q) b := Nat.not_le.mpr hbl
  refine lv_aload_n hx hb dL_law_148 rfl (lv_at hl 1 rfl) ?_
  refine lv_aload_n hx hb dL_law_149 rfl (lv_at hl 0 rfl) ?_
  refine lv_iload_n hx hb dL_law_150 rfl (lv_at hl 3 rfl) ?_
  refine lv_iconst (v := 1) hx hb dL_law_151 (by decide) ?_
  refine lv_iadd hx hb dL_law_152 ?_
  refine mv_top (y := nI (i + 1)) (by rw [← nI_add]; rfl) ?_
  refine va_sld hx hb hX hbl hbA hS (vp_in_nI (n := i + 1) (by omega) (by omega)) dL_law_153 ?_
  refine mv_top (y := xs (i + 1)) (by rw [nI_clamp (by omega)]) ?_
  obtain ⟨I1, R1, J1, r, e1, e2, hR1⟩ := ho.1 I R J (xs (i + 1)) hR
  refine ml_V (As := [.int (xs (i + 1))]) (rest := []) (ct_X8_pay l (w := w1) (I := I) (R := R) e1) C K1 hP hP2 hd1 hA1 hS hl.1 kf_144 (by decide) rfl rfl ml_L_13 wy_X8_pay wd_X8_pay rfl rfl rfl ⟨Nat.le_of_ble_eq_true rfl, Nat.le_of_ble_eq_true rfl⟩ (Nat.le_of_ble_eq_true rfl) ⟨Nat.le_of_ble_eq_true rfl, Nat.le_of_ble_eq_true rfl⟩ dL_law_154 (fun H locs hP hP2 hS => ?_)
  refine lv_aload_n hx hb dL_law_157 rfl (lv_at hl 2 rfl) ?_
  refine lv_aload_n hx hb dL_law_158 rfl (lv_at hl 0 rfl) ?_
  refine lv_iload_n hx hb dL_law_159 rfl (lv_at hl 3 rfl) ?_
  refine lv_iconst (v := 1) hx hb dL_law_160 (by decide) ?_
  refine lv_iadd hx hb dL_law_161 ?_
  refine mv_top (y := nI (i + 1)) (by rw [← nI_add]; rfl) ?_
  refine va_sld hx hb hX hbl hbA hS (vp_in_nI (n := i + 1) (by omega) (by omega)) dL_law_162 ?_
  refine mv_top (y := xs (i + 1)) (by rw [nI_clamp (by omega)]) ?_
  refine ml_V (As := [.int (xs (i + 1))]) (rest := [.int r]) (ct_X9_pay l (w := w2) (I := J) (R := R2) e2) C K2 hP2 hP (fun i j hi hj h => hd1 j i hj hi h.symm) hA2 hS hl.1 kr_0 (by decide) rfl rfl ml_L_17 wy_X9_pay wd_X9_pay rfl rfl rfl ⟨Nat.le_of_ble_eq_true rfl, Nat.le_of_ble_eq_true rfl⟩ (Nat.le_of_ble_eq_true rfl) ⟨Nat.le_of_ble_eq_true rfl, Nat.le_of_ble_eq_true rfl⟩ dL_law_163 (fun H locs hP2 hP hS => ?_)
  refine lv_icmp_eq (tgt := 747) hx hb dL_law_166 (by decide) (fun _ => ?_) (fun cy => absurd rfl cy)
  exact ih _ _ _ _ _ _ hR1 hP hP2 hS hl
set_option maxHeartbeats 4000000 in
set_option maxRecDepth 100000 in
theorem lc_setSlope {p : Program} {e : Env} {s : State} {m : MethodId} {below : List Frame} {meth : Method} {c : Code} (l : Launch) {b L : Nat} {xs : Nat → Int32} (hL : L ≤ 2048) (C : CallFix p m c code 4 s #[Value.ref b] mc_big RL) (hX : va_X b L xs s s.heap) (hbl : b < s.heap.size) {w1 w2 : mc_w} (K1 : mc_K mc_k 152 w1 s) (K2 : mc_K mr_k 3 w2 s) (hd1 : ∀ i j, i < 152 → j < 3 → w1.2.2.1 i ≠ w2.2.2.1 j) (hA1 : ∀ i, i < 152 → s.heap.size ≤ w1.2.2.1 i) (hA2 : ∀ i, i < 3 → s.heap.size ≤ w2.2.2.1 i) {R2 : Nat → Nat → Option Nat} {F : Nat} {Rl : (Nat → Nat → Int32) → (Nat → Nat → Option Nat) → (Nat → Nat → Int32) → Prop} (ho : mz_ops F Rl) {i : Nat} (hi : i + 4 ≤ L) (ih : ∀ (I : Nat → Nat → Int32) (R : Nat → Nat → Option Nat) (J : Nat → Nat → Int32) (H : Heap) (locs : List Loc) (ls : Array Slot), Rl I R J → mc_P mc_k 152 w1 I R H → mc_P mr_k 3 w2 J R2 H → va_S (fun q => s.heap.size ≤ q) s.heap H locs → lv_has ls 4 [(0, .ref b), (1, .ref (w1.2.2.1 144)), (2, .ref (w2.2.2.1 0)), (3, .int (nI i))] → W p l e room_1 s m #[Value.ref b] below meth c H locs 155 3064 (lw_Z below #[Value.ref b] s) (F0 m 747 ls [])) : ∀ {I : Nat → Nat → Int32} {R : Nat → Nat → Option Nat} {J : Nat → Nat → Int32} {H : Heap} {locs : List Loc} {ls : Array Slot}, Rl I R J → mc_P mc_k 152 w1 I R H → mc_P mr_k 3 w2 J R2 H → va_S (fun q => s.heap.size ≤ q) s.heap H locs → lv_has ls 4 [(0, .ref b), (1, .ref (w1.2.2.1 144)), (2, .ref (w2.2.2.1 0)), (3, .int (nI i))] → W p l e room_1 s m #[Value.ref b] below meth c H locs 155 3064 (lw_Z below #[Value.ref b] s) (F0 m 171 ls []) := by
  intro I R J H locs ls hR hP hP2 hS hl
  have hx := C.1
  have hb := C.2.1
  have hbA : ¬ (fun q : Nat => s.heap.size ≤ q) b := Nat.not_le.mpr hbl
  refine lv_aload_n hx hb dL_law_171 rfl (lv_at hl 1 rfl) ?_
  refine lv_aload_n hx hb dL_law_172 rfl (lv_at hl 0 rfl) ?_
  refine lv_iload_n hx hb dL_law_173 rfl (lv_at hl 3 rfl) ?_
  refine lv_iconst (v := 1) hx hb dL_law_174 (by decide) ?_
  refine lv_iadd hx hb dL_law_175 ?_
  refine mv_top (y := nI (i + 1)) (by rw [← nI_add]; rfl) ?_
  refine va_sld hx hb hX hbl hbA hS (vp_in_nI (n := i + 1) (by omega) (by omega)) dL_law_176 ?_
  refine mv_top (y := xs (i + 1)) (by rw [nI_clamp (by omega)]) ?_
  obtain ⟨I1, R1, J1, r, e1, e2, hR1⟩ := ho.2.1 I R J (xs (i + 1)) hR
  refine ml_V (As := [.int (xs (i + 1))]) (rest := []) (ct_X8_setSlope l (w := w1) (I := I) (R := R) e1) C K1 hP hP2 hd1 hA1 hS hl.1 kf_144 (by decide) rfl rfl ml_L_18 wy_X8_setSlope wd_X8_setSlope rfl rfl rfl ⟨Nat.le_of_ble_eq_true rfl, Nat.le_of_ble_eq_true rfl⟩ (Nat.le_of_ble_eq_true rfl) ⟨Nat.le_of_ble_eq_true rfl, Nat.le_of_ble_eq_true rfl⟩ dL_law_177 (fun H locs hP hP2 hS => ?_)
  refine lv_aload_n hx hb dL_law_180 rfl (lv_at hl 2 rfl) ?_
  refine lv_aload_n hx hb dL_law_181 rfl (lv_at hl 0 rfl) ?_
  refine lv_iload_n hx hb dL_law_182 rfl (lv_at hl 3 rfl) ?_
  refine lv_iconst (v := 1) hx hb dL_law_183 (by decide) ?_
  refine lv_iadd hx hb dL_law_184 ?_
  refine mv_top (y := nI (i + 1)) (by rw [← nI_add]; rfl) ?_
  refine va_sld hx hb hX hbl hbA hS (vp_in_nI (n := i + 1) (by omega) (by omega)) dL_law_185 ?_
  refine mv_top (y := xs (i + 1)) (by rw [nI_clamp (by omega)]) ?_
  refine ml_V (As := [.int (xs (i + 1))]) (rest := [.int r]) (ct_X9_setSlope l (w := w2) (I := J) (R := R2) e2) C K2 hP2 hP (fun i j hi hj h => hd1 j i hj hi h.symm) hA2 hS hl.1 kr_0 (by decide) rfl rfl ml_L_21 wy_X9_setSlope wd_X9_setSlope rfl rfl rfl ⟨Nat.le_of_ble_eq_true rfl, Nat.le_of_ble_eq_true rfl⟩ (Nat.le_of_ble_eq_true rfl) ⟨Nat.le_of_ble_eq_true rfl, Nat.le_of_ble_eq_true rfl⟩ dL_law_186 (fun H locs hP2 hP hS => ?_)
  refine lv_icmp_eq (tgt := 747) hx hb dL_law_189 (by decide) (fun _ => ?_) (fun cy => absurd rfl cy)
  exact ih _ _ _ _ _ _ hR1 hP hP2 hS hl
set_option maxHeartbeats 4000000 in
set_option maxRecDepth 100000 in
theorem lc_weight {p : Program} {e : Env} {s : State} {m : MethodId} {below : List Frame} {meth : Method} {c : Code} (l : Launch) {b L : Nat} {xs : Nat → Int32} (hL : L ≤ 2048) (C : CallFix p m c code 4 s #[Value.ref b] mc_big RL) (hX : va_X b L xs s s.heap) (hbl : b < s.heap.size) {w1 w2 : mc_w} (K1 : mc_K mc_k 152 w1 s) (K2 : mc_K mr_k 3 w2 s) (hd1 : ∀ i j, i < 152 → j < 3 → w1.2.2.1 i ≠ w2.2.2.1 j) (hA1 : ∀ i, i < 152 → s.heap.size ≤ w1.2.2.1 i) (hA2 : ∀ i, i < 3 → s.heap.size ≤ w2.2.2.1 i) {R2 : Nat → Nat → Option Nat} {F : Nat} {Rl : (Nat → Nat → Int32) → (Nat → Nat → Option Nat) → (Nat → Nat → Int32) → Prop} (ho : mz_ops F Rl) {i : Nat} (hi : i + 4 ≤ L) (ih : ∀ (I : Nat → Nat → Int32) (R : Nat → Nat → Option Nat) (J : Nat → Nat → Int32) (H : Heap) (locs : List Loc) (ls : Array Slot), Rl I R J → mc_P mc_k 152 w1 I R H → mc_P mr_k 3 w2 J R2 H → va_S (fun q => s.heap.size ≤ q) s.heap H locs → lv_has ls 4 [(0, .ref b), (1, .ref (w1.2.2.1 144)), (2, .ref (w2.2.2.1 0)), (3, .int (nI i))] → W p l e room_1 s m #[Value.ref b] below meth c H locs 155 3064 (lw_Z below #[Value.ref b] s) (F0 m 747 ls [])) : ∀ {I : Nat → Nat → Int32} {R : Nat → Nat → Option Nat} {J : Nat → Nat → Int32} {H : Heap} {locs : List Loc} {ls : Array Slot}, Rl I R J → mc_P mc_k 152 w1 I R H → mc_P mr_k 3 w2 J R2 H → va_S (fun q => s.heap.size ≤ q) s.heap H locs → lv_has ls 4 [(0, .ref b), (1, .ref (w1.2.2.1 144)), (2, .ref (w2.2.2.1 0)), (3, .int (nI i))] → W p l e room_1 s m #[Value.ref b] below meth c H locs 155 3064 (lw_Z below #[Value.ref b] s) (F0 m 194 ls []) := by
  intro I R J H locs ls hR hP hP2 hS hl
  have hx := C.1
  have hb := C.2.1
  have hbA : ¬ (fun q : Nat => s.heap.size ≤ q) b := Nat.not_le.mpr hbl
  refine lv_aload_n hx hb dL_law_194 rfl (lv_at hl 1 rfl) ?_
  refine lv_aload_n hx hb dL_law_195 rfl (lv_at hl 0 rfl) ?_
  refine lv_iload_n hx hb dL_law_196 rfl (lv_at hl 3 rfl) ?_
  refine lv_iconst (v := 1) hx hb dL_law_197 (by decide) ?_
  refine lv_iadd hx hb dL_law_198 ?_
  refine mv_top (y := nI (i + 1)) (by rw [← nI_add]; rfl) ?_
  refine va_sld hx hb hX hbl hbA hS (vp_in_nI (n := i + 1) (by omega) (by omega)) dL_law_199 ?_
  refine mv_top (y := xs (i + 1)) (by rw [nI_clamp (by omega)]) ?_
  refine lv_if_eq (tgt := 207) hx hb dL_law_200 (by decide) (fun cz => ?_) (fun cz => ?_)
  · refine lv_iconst (v := 0) hx hb dL_law_207 (by decide) ?_
    obtain ⟨I1, R1, J1, r, e1, e2, hR1⟩ := ho.2.2.1 I R J 0 hR (by decide)
    refine ml_V (As := [.int 0]) (rest := []) (ct_X8_weight l (w := w1) (I := I) (R := R) e1) C K1 hP hP2 hd1 hA1 hS hl.1 kf_144 (by decide) rfl rfl ml_L_22 wy_X8_weight wd_X8_weight rfl rfl rfl ⟨Nat.le_of_ble_eq_true rfl, Nat.le_of_ble_eq_true rfl⟩ (Nat.le_of_ble_eq_true rfl) ⟨Nat.le_of_ble_eq_true rfl, Nat.le_of_ble_eq_true rfl⟩ dL_law_208 (fun H locs hP hP2 hS => ?_)
    refine lv_aload_n hx hb dL_law_211 rfl (lv_at hl 2 rfl) ?_
    refine lv_aload_n hx hb dL_law_212 rfl (lv_at hl 0 rfl) ?_
    refine lv_iload_n hx hb dL_law_213 rfl (lv_at hl 3 rfl) ?_
    refine lv_iconst (v := 1) hx hb dL_law_214 (by decide) ?_
    refine lv_iadd hx hb dL_law_215 ?_
    refine mv_top (y := nI (i + 1)) (by rw [← nI_add]; rfl) ?_
    refine va_sld hx hb hX hbl hbA hS (vp_in_nI (n := i + 1) (by omega) (by omega)) dL_law_216 ?_
    refine mv_top (y := xs (i + 1)) (by rw [nI_clamp (by omega)]) ?_
    refine lv_if_eq (tgt := 224) hx hb dL_law_217 (by decide) (fun _ => ?_) (fun cy => absurd cz cy)
    refine lv_iconst (v := 0) hx hb dL_law_224 (by decide) ?_
    refine ml_V (As := [.int 0]) (rest := [.int r]) (ct_X9_weight l (w := w2) (I := J) (R := R2) e2) C K2 hP2 hP (fun i j hi hj h => hd1 j i hj hi h.symm) hA2 hS hl.1 kr_0 (by decide) rfl rfl ml_L_26 wy_X9_weight wd_X9_weight rfl rfl rfl ⟨Nat.le_of_ble_eq_true rfl, Nat.le_of_ble_eq_true rfl⟩ (Nat.le_of_ble_eq_true rfl) ⟨Nat.le_of_ble_eq_true rfl, Nat.le_of_ble_eq_true rfl⟩ dL_law_225 (fun H locs hP2 hP hS => ?_)
    refine lv_icmp_eq (tgt := 747) hx hb dL_law_228 (by decide) (fun _ => ?_) (fun cy => absurd rfl cy)
    exact ih _ _ _ _ _ _ hR1 hP hP2 hS hl
  · refine lv_iconst (v := 1) hx hb dL_law_203 (by decide) ?_
    refine lv_goto (tgt := 208) hx hb dL_law_204 (by decide) ?_
    obtain ⟨I1, R1, J1, r, e1, e2, hR1⟩ := ho.2.2.1 I R J 1 hR (by decide)
    refine ml_V (As := [.int 1]) (rest := []) (ct_X8_weight l (w := w1) (I := I) (R := R) e1) C K1 hP hP2 hd1 hA1 hS hl.1 kf_144 (by decide) rfl rfl ml_L_22 wy_X8_weight wd_X8_weight rfl rfl rfl ⟨Nat.le_of_ble_eq_true rfl, Nat.le_of_ble_eq_true rfl⟩ (Nat.le_of_ble_eq_true rfl) ⟨Nat.le_of_ble_eq_true rfl, Nat.le_of_ble_eq_true rfl⟩ dL_law_208 (fun H locs hP hP2 hS => ?_)
    refine lv_aload_n hx hb dL_law_211 rfl (lv_at hl 2 rfl) ?_
    refine lv_aload_n hx hb dL_law_212 rfl (lv_at hl 0 rfl) ?_
    refine lv_iload_n hx hb dL_law_213 rfl (lv_at hl 3 rfl) ?_
    refine lv_iconst (v := 1) hx hb dL_law_214 (by decide) ?_
    refine lv_iadd hx hb dL_law_215 ?_
    refine mv_top (y := nI (i + 1)) (by rw [← nI_add]; rfl) ?_
    refine va_sld hx hb hX hbl hbA hS (vp_in_nI (n := i + 1) (by omega) (by omega)) dL_law_216 ?_
    refine mv_top (y := xs (i + 1)) (by rw [nI_clamp (by omega)]) ?_
    refine lv_if_eq (tgt := 224) hx hb dL_law_217 (by decide) (fun cy => absurd cy cz) (fun _ => ?_)
    refine lv_iconst (v := 1) hx hb dL_law_220 (by decide) ?_
    refine lv_goto (tgt := 225) hx hb dL_law_221 (by decide) ?_
    refine ml_V (As := [.int 1]) (rest := [.int r]) (ct_X9_weight l (w := w2) (I := J) (R := R2) e2) C K2 hP2 hP (fun i j hi hj h => hd1 j i hj hi h.symm) hA2 hS hl.1 kr_0 (by decide) rfl rfl ml_L_26 wy_X9_weight wd_X9_weight rfl rfl rfl ⟨Nat.le_of_ble_eq_true rfl, Nat.le_of_ble_eq_true rfl⟩ (Nat.le_of_ble_eq_true rfl) ⟨Nat.le_of_ble_eq_true rfl, Nat.le_of_ble_eq_true rfl⟩ dL_law_225 (fun H locs hP2 hP hS => ?_)
    refine lv_icmp_eq (tgt := 747) hx hb dL_law_228 (by decide) (fun _ => ?_) (fun cy => absurd rfl cy)
    exact ih _ _ _ _ _ _ hR1 hP hP2 hS hl
set_option maxHeartbeats 4000000 in
set_option maxRecDepth 100000 in
theorem lc_clamp {p : Program} {e : Env} {s : State} {m : MethodId} {below : List Frame} {meth : Method} {c : Code} (l : Launch) {b L : Nat} {xs : Nat → Int32} (hL : L ≤ 2048) (C : CallFix p m c code 4 s #[Value.ref b] mc_big RL) (hX : va_X b L xs s s.heap) (hbl : b < s.heap.size) {w1 w2 : mc_w} (K1 : mc_K mc_k 152 w1 s) (K2 : mc_K mr_k 3 w2 s) (hd1 : ∀ i j, i < 152 → j < 3 → w1.2.2.1 i ≠ w2.2.2.1 j) (hA1 : ∀ i, i < 152 → s.heap.size ≤ w1.2.2.1 i) (hA2 : ∀ i, i < 3 → s.heap.size ≤ w2.2.2.1 i) {R2 : Nat → Nat → Option Nat} {F : Nat} {Rl : (Nat → Nat → Int32) → (Nat → Nat → Option Nat) → (Nat → Nat → Int32) → Prop} (ho : mz_ops F Rl) {i : Nat} (hi : i + 4 ≤ L) (ih : ∀ (I : Nat → Nat → Int32) (R : Nat → Nat → Option Nat) (J : Nat → Nat → Int32) (H : Heap) (locs : List Loc) (ls : Array Slot), Rl I R J → mc_P mc_k 152 w1 I R H → mc_P mr_k 3 w2 J R2 H → va_S (fun q => s.heap.size ≤ q) s.heap H locs → lv_has ls 4 [(0, .ref b), (1, .ref (w1.2.2.1 144)), (2, .ref (w2.2.2.1 0)), (3, .int (nI i))] → W p l e room_1 s m #[Value.ref b] below meth c H locs 155 3064 (lw_Z below #[Value.ref b] s) (F0 m 747 ls [])) : ∀ {I : Nat → Nat → Int32} {R : Nat → Nat → Option Nat} {J : Nat → Nat → Int32} {H : Heap} {locs : List Loc} {ls : Array Slot}, Rl I R J → mc_P mc_k 152 w1 I R H → mc_P mr_k 3 w2 J R2 H → va_S (fun q => s.heap.size ≤ q) s.heap H locs → lv_has ls 4 [(0, .ref b), (1, .ref (w1.2.2.1 144)), (2, .ref (w2.2.2.1 0)), (3, .int (nI i))] → W p l e room_1 s m #[Value.ref b] below meth c H locs 155 3064 (lw_Z below #[Value.ref b] s) (F0 m 233 ls []) := by
  intro I R J H locs ls hR hP hP2 hS hl
  have hx := C.1
  have hb := C.2.1
  have hbA : ¬ (fun q : Nat => s.heap.size ≤ q) b := Nat.not_le.mpr hbl
  refine lv_aload_n hx hb dL_law_233 rfl (lv_at hl 1 rfl) ?_
  refine lv_aload_n hx hb dL_law_234 rfl (lv_at hl 0 rfl) ?_
  refine lv_iload_n hx hb dL_law_235 rfl (lv_at hl 3 rfl) ?_
  refine lv_iconst (v := 1) hx hb dL_law_236 (by decide) ?_
  refine lv_iadd hx hb dL_law_237 ?_
  refine mv_top (y := nI (i + 1)) (by rw [← nI_add]; rfl) ?_
  refine va_sld hx hb hX hbl hbA hS (vp_in_nI (n := i + 1) (by omega) (by omega)) dL_law_238 ?_
  refine mv_top (y := xs (i + 1)) (by rw [nI_clamp (by omega)]) ?_
  refine lv_if_eq (tgt := 246) hx hb dL_law_239 (by decide) (fun cz => ?_) (fun cz => ?_)
  · refine lv_iconst (v := 0) hx hb dL_law_246 (by decide) ?_
    obtain ⟨I1, R1, J1, r, e1, e2, hR1⟩ := ho.2.2.2.1 I R J 0 hR (by decide)
    refine ml_V (As := [.int 0]) (rest := []) (ct_X8_clamp l (w := w1) (I := I) (R := R) e1) C K1 hP hP2 hd1 hA1 hS hl.1 kf_144 (by decide) rfl rfl ml_L_27 wy_X8_clamp wd_X8_clamp rfl rfl rfl ⟨Nat.le_of_ble_eq_true rfl, Nat.le_of_ble_eq_true rfl⟩ (Nat.le_of_ble_eq_true rfl) ⟨Nat.le_of_ble_eq_true rfl, Nat.le_of_ble_eq_true rfl⟩ dL_law_247 (fun H locs hP hP2 hS => ?_)
    refine lv_aload_n hx hb dL_law_250 rfl (lv_at hl 2 rfl) ?_
    refine lv_aload_n hx hb dL_law_251 rfl (lv_at hl 0 rfl) ?_
    refine lv_iload_n hx hb dL_law_252 rfl (lv_at hl 3 rfl) ?_
    refine lv_iconst (v := 1) hx hb dL_law_253 (by decide) ?_
    refine lv_iadd hx hb dL_law_254 ?_
    refine mv_top (y := nI (i + 1)) (by rw [← nI_add]; rfl) ?_
    refine va_sld hx hb hX hbl hbA hS (vp_in_nI (n := i + 1) (by omega) (by omega)) dL_law_255 ?_
    refine mv_top (y := xs (i + 1)) (by rw [nI_clamp (by omega)]) ?_
    refine lv_if_eq (tgt := 263) hx hb dL_law_256 (by decide) (fun _ => ?_) (fun cy => absurd cz cy)
    refine lv_iconst (v := 0) hx hb dL_law_263 (by decide) ?_
    refine ml_V (As := [.int 0]) (rest := [.int r]) (ct_X9_clamp l (w := w2) (I := J) (R := R2) e2) C K2 hP2 hP (fun i j hi hj h => hd1 j i hj hi h.symm) hA2 hS hl.1 kr_0 (by decide) rfl rfl ml_L_30 wy_X9_clamp wd_X9_clamp rfl rfl rfl ⟨Nat.le_of_ble_eq_true rfl, Nat.le_of_ble_eq_true rfl⟩ (Nat.le_of_ble_eq_true rfl) ⟨Nat.le_of_ble_eq_true rfl, Nat.le_of_ble_eq_true rfl⟩ dL_law_264 (fun H locs hP2 hP hS => ?_)
    refine lv_icmp_eq (tgt := 747) hx hb dL_law_267 (by decide) (fun _ => ?_) (fun cy => absurd rfl cy)
    exact ih _ _ _ _ _ _ hR1 hP hP2 hS hl
  · refine lv_iconst (v := 1) hx hb dL_law_242 (by decide) ?_
    refine lv_goto (tgt := 247) hx hb dL_law_243 (by decide) ?_
    obtain ⟨I1, R1, J1, r, e1, e2, hR1⟩ := ho.2.2.2.1 I R J 1 hR (by decide)
    refine ml_V (As := [.int 1]) (rest := []) (ct_X8_clamp l (w := w1) (I := I) (R := R) e1) C K1 hP hP2 hd1 hA1 hS hl.1 kf_144 (by decide) rfl rfl ml_L_27 wy_X8_clamp wd_X8_clamp rfl rfl rfl ⟨Nat.le_of_ble_eq_true rfl, Nat.le_of_ble_eq_true rfl⟩ (Nat.le_of_ble_eq_true rfl) ⟨Nat.le_of_ble_eq_true rfl, Nat.le_of_ble_eq_true rfl⟩ dL_law_247 (fun H locs hP hP2 hS => ?_)
    refine lv_aload_n hx hb dL_law_250 rfl (lv_at hl 2 rfl) ?_
    refine lv_aload_n hx hb dL_law_251 rfl (lv_at hl 0 rfl) ?_
    refine lv_iload_n hx hb dL_law_252 rfl (lv_at hl 3 rfl) ?_
    refine lv_iconst (v := 1) hx hb dL_law_253 (by decide) ?_
    refine lv_iadd hx hb dL_law_254 ?_
    refine mv_top (y := nI (i + 1)) (by rw [← nI_add]; rfl) ?_
    refine va_sld hx hb hX hbl hbA hS (vp_in_nI (n := i + 1) (by omega) (by omega)) dL_law_255 ?_
    refine mv_top (y := xs (i + 1)) (by rw [nI_clamp (by omega)]) ?_
    refine lv_if_eq (tgt := 263) hx hb dL_law_256 (by decide) (fun cy => absurd cy cz) (fun _ => ?_)
    refine lv_iconst (v := 1) hx hb dL_law_259 (by decide) ?_
    refine lv_goto (tgt := 264) hx hb dL_law_260 (by decide) ?_
    refine ml_V (As := [.int 1]) (rest := [.int r]) (ct_X9_clamp l (w := w2) (I := J) (R := R2) e2) C K2 hP2 hP (fun i j hi hj h => hd1 j i hj hi h.symm) hA2 hS hl.1 kr_0 (by decide) rfl rfl ml_L_30 wy_X9_clamp wd_X9_clamp rfl rfl rfl ⟨Nat.le_of_ble_eq_true rfl, Nat.le_of_ble_eq_true rfl⟩ (Nat.le_of_ble_eq_true rfl) ⟨Nat.le_of_ble_eq_true rfl, Nat.le_of_ble_eq_true rfl⟩ dL_law_264 (fun H locs hP2 hP hS => ?_)
    refine lv_icmp_eq (tgt := 747) hx hb dL_law_267 (by decide) (fun _ => ?_) (fun cy => absurd rfl cy)
    exact ih _ _ _ _ _ _ hR1 hP hP2 hS hl
set_option maxHeartbeats 4000000 in
set_option maxRecDepth 100000 in
theorem lc_takeOff {p : Program} {e : Env} {s : State} {m : MethodId} {below : List Frame} {meth : Method} {c : Code} (l : Launch) {b L : Nat} {xs : Nat → Int32} (hL : L ≤ 2048) (C : CallFix p m c code 4 s #[Value.ref b] mc_big RL) (hX : va_X b L xs s s.heap) (hbl : b < s.heap.size) {w1 w2 : mc_w} (K1 : mc_K mc_k 152 w1 s) (K2 : mc_K mr_k 3 w2 s) (hd1 : ∀ i j, i < 152 → j < 3 → w1.2.2.1 i ≠ w2.2.2.1 j) (hA1 : ∀ i, i < 152 → s.heap.size ≤ w1.2.2.1 i) (hA2 : ∀ i, i < 3 → s.heap.size ≤ w2.2.2.1 i) {R2 : Nat → Nat → Option Nat} {F : Nat} {Rl : (Nat → Nat → Int32) → (Nat → Nat → Option Nat) → (Nat → Nat → Int32) → Prop} (ho : mz_ops F Rl) {i : Nat} (hi : i + 4 ≤ L) (ih : ∀ (I : Nat → Nat → Int32) (R : Nat → Nat → Option Nat) (J : Nat → Nat → Int32) (H : Heap) (locs : List Loc) (ls : Array Slot), Rl I R J → mc_P mc_k 152 w1 I R H → mc_P mr_k 3 w2 J R2 H → va_S (fun q => s.heap.size ≤ q) s.heap H locs → lv_has ls 4 [(0, .ref b), (1, .ref (w1.2.2.1 144)), (2, .ref (w2.2.2.1 0)), (3, .int (nI i))] → W p l e room_1 s m #[Value.ref b] below meth c H locs 155 3064 (lw_Z below #[Value.ref b] s) (F0 m 747 ls [])) : ∀ {I : Nat → Nat → Int32} {R : Nat → Nat → Option Nat} {J : Nat → Nat → Int32} {H : Heap} {locs : List Loc} {ls : Array Slot}, Rl I R J → mc_P mc_k 152 w1 I R H → mc_P mr_k 3 w2 J R2 H → va_S (fun q => s.heap.size ≤ q) s.heap H locs → lv_has ls 4 [(0, .ref b), (1, .ref (w1.2.2.1 144)), (2, .ref (w2.2.2.1 0)), (3, .int (nI i))] → W p l e room_1 s m #[Value.ref b] below meth c H locs 155 3064 (lw_Z below #[Value.ref b] s) (F0 m 272 ls []) := by
  intro I R J H locs ls hR hP hP2 hS hl
  have hx := C.1
  have hb := C.2.1
  have hbA : ¬ (fun q : Nat => s.heap.size ≤ q) b := Nat.not_le.mpr hbl
  refine lv_aload_n hx hb dL_law_272 rfl (lv_at hl 1 rfl) ?_
  refine lv_aload_n hx hb dL_law_273 rfl (lv_at hl 0 rfl) ?_
  refine lv_iload_n hx hb dL_law_274 rfl (lv_at hl 3 rfl) ?_
  refine lv_iconst (v := 1) hx hb dL_law_275 (by decide) ?_
  refine lv_iadd hx hb dL_law_276 ?_
  refine mv_top (y := nI (i + 1)) (by rw [← nI_add]; rfl) ?_
  refine va_sld hx hb hX hbl hbA hS (vp_in_nI (n := i + 1) (by omega) (by omega)) dL_law_277 ?_
  refine mv_top (y := xs (i + 1)) (by rw [nI_clamp (by omega)]) ?_
  obtain ⟨I1, R1, J1, r, e1, e2, hR1⟩ := ho.2.2.2.2.1 I R J (xs (i + 1)) hR
  refine ml_V (As := [.int (xs (i + 1))]) (rest := []) (ct_X8_takeOff l (w := w1) (I := I) (R := R) e1) C K1 hP hP2 hd1 hA1 hS hl.1 kf_144 (by decide) rfl rfl ml_L_31 wy_X8_takeOff wd_X8_takeOff rfl rfl rfl ⟨Nat.le_of_ble_eq_true rfl, Nat.le_of_ble_eq_true rfl⟩ (Nat.le_of_ble_eq_true rfl) ⟨Nat.le_of_ble_eq_true rfl, Nat.le_of_ble_eq_true rfl⟩ dL_law_278 (fun H locs hP hP2 hS => ?_)
  refine lv_aload_n hx hb dL_law_281 rfl (lv_at hl 2 rfl) ?_
  refine lv_aload_n hx hb dL_law_282 rfl (lv_at hl 0 rfl) ?_
  refine lv_iload_n hx hb dL_law_283 rfl (lv_at hl 3 rfl) ?_
  refine lv_iconst (v := 1) hx hb dL_law_284 (by decide) ?_
  refine lv_iadd hx hb dL_law_285 ?_
  refine mv_top (y := nI (i + 1)) (by rw [← nI_add]; rfl) ?_
  refine va_sld hx hb hX hbl hbA hS (vp_in_nI (n := i + 1) (by omega) (by omega)) dL_law_286 ?_
  refine mv_top (y := xs (i + 1)) (by rw [nI_clamp (by omega)]) ?_
  refine ml_V (As := [.int (xs (i + 1))]) (rest := [.int r]) (ct_X9_takeOff l (w := w2) (I := J) (R := R2) e2) C K2 hP2 hP (fun i j hi hj h => hd1 j i hj hi h.symm) hA2 hS hl.1 kr_0 (by decide) rfl rfl ml_L_34 wy_X9_takeOff wd_X9_takeOff rfl rfl rfl ⟨Nat.le_of_ble_eq_true rfl, Nat.le_of_ble_eq_true rfl⟩ (Nat.le_of_ble_eq_true rfl) ⟨Nat.le_of_ble_eq_true rfl, Nat.le_of_ble_eq_true rfl⟩ dL_law_287 (fun H locs hP2 hP hS => ?_)
  refine lv_icmp_eq (tgt := 747) hx hb dL_law_290 (by decide) (fun _ => ?_) (fun cy => absurd rfl cy)
  exact ih _ _ _ _ _ _ hR1 hP hP2 hS hl
set_option maxHeartbeats 4000000 in
set_option maxRecDepth 100000 in
theorem lc_send {p : Program} {e : Env} {s : State} {m : MethodId} {below : List Frame} {meth : Method} {c : Code} (l : Launch) {b L : Nat} {xs : Nat → Int32} (hL : L ≤ 2048) (C : CallFix p m c code 4 s #[Value.ref b] mc_big RL) (hX : va_X b L xs s s.heap) (hbl : b < s.heap.size) {w1 w2 : mc_w} (K1 : mc_K mc_k 152 w1 s) (K2 : mc_K mr_k 3 w2 s) (hd1 : ∀ i j, i < 152 → j < 3 → w1.2.2.1 i ≠ w2.2.2.1 j) (hA1 : ∀ i, i < 152 → s.heap.size ≤ w1.2.2.1 i) (hA2 : ∀ i, i < 3 → s.heap.size ≤ w2.2.2.1 i) {R2 : Nat → Nat → Option Nat} {F : Nat} {Rl : (Nat → Nat → Int32) → (Nat → Nat → Option Nat) → (Nat → Nat → Int32) → Prop} (ho : mz_ops F Rl) {i : Nat} (hi : i + 4 ≤ L) (ih : ∀ (I : Nat → Nat → Int32) (R : Nat → Nat → Option Nat) (J : Nat → Nat → Int32) (H : Heap) (locs : List Loc) (ls : Array Slot), Rl I R J → mc_P mc_k 152 w1 I R H → mc_P mr_k 3 w2 J R2 H → va_S (fun q => s.heap.size ≤ q) s.heap H locs → lv_has ls 4 [(0, .ref b), (1, .ref (w1.2.2.1 144)), (2, .ref (w2.2.2.1 0)), (3, .int (nI i))] → W p l e room_1 s m #[Value.ref b] below meth c H locs 155 3064 (lw_Z below #[Value.ref b] s) (F0 m 747 ls [])) : ∀ {I : Nat → Nat → Int32} {R : Nat → Nat → Option Nat} {J : Nat → Nat → Int32} {H : Heap} {locs : List Loc} {ls : Array Slot}, Rl I R J → mc_P mc_k 152 w1 I R H → mc_P mr_k 3 w2 J R2 H → va_S (fun q => s.heap.size ≤ q) s.heap H locs → lv_has ls 4 [(0, .ref b), (1, .ref (w1.2.2.1 144)), (2, .ref (w2.2.2.1 0)), (3, .int (nI i))] → W p l e room_1 s m #[Value.ref b] below meth c H locs 155 3064 (lw_Z below #[Value.ref b] s) (F0 m 295 ls []) := by
  intro I R J H locs ls hR hP hP2 hS hl
  have hx := C.1
  have hb := C.2.1
  have hbA : ¬ (fun q : Nat => s.heap.size ≤ q) b := Nat.not_le.mpr hbl
  refine lv_aload_n hx hb dL_law_295 rfl (lv_at hl 1 rfl) ?_
  obtain ⟨I1, R1, J1, r, e1, e2, hR1⟩ := ho.2.2.2.2.2.1 I R J  hR
  refine ml_V (As := []) (rest := []) (ct_X8_send l (w := w1) (I := I) (R := R) e1) C K1 hP hP2 hd1 hA1 hS hl.1 kf_144 (by decide) rfl rfl ml_L_35 wy_X8_send wd_X8_send rfl rfl rfl ⟨Nat.le_of_ble_eq_true rfl, Nat.le_of_ble_eq_true rfl⟩ (Nat.le_of_ble_eq_true rfl) ⟨Nat.le_of_ble_eq_true rfl, Nat.le_of_ble_eq_true rfl⟩ dL_law_296 (fun H locs hP hP2 hS => ?_)
  refine lv_aload_n hx hb dL_law_299 rfl (lv_at hl 2 rfl) ?_
  refine ml_V (As := []) (rest := [.int r]) (ct_X9_send l (w := w2) (I := J) (R := R2) e2) C K2 hP2 hP (fun i j hi hj h => hd1 j i hj hi h.symm) hA2 hS hl.1 kr_0 (by decide) rfl rfl ml_L_39 wy_X9_send wd_X9_send rfl rfl rfl ⟨Nat.le_of_ble_eq_true rfl, Nat.le_of_ble_eq_true rfl⟩ (Nat.le_of_ble_eq_true rfl) ⟨Nat.le_of_ble_eq_true rfl, Nat.le_of_ble_eq_true rfl⟩ dL_law_300 (fun H locs hP2 hP hS => ?_)
  refine lv_icmp_eq (tgt := 747) hx hb dL_law_303 (by decide) (fun _ => ?_) (fun cy => absurd rfl cy)
  exact ih _ _ _ _ _ _ hR1 hP hP2 hS hl
set_option maxHeartbeats 4000000 in
set_option maxRecDepth 100000 in
theorem lc_pass {p : Program} {e : Env} {s : State} {m : MethodId} {below : List Frame} {meth : Method} {c : Code} (l : Launch) {b L : Nat} {xs : Nat → Int32} (hL : L ≤ 2048) (C : CallFix p m c code 4 s #[Value.ref b] mc_big RL) (hX : va_X b L xs s s.heap) (hbl : b < s.heap.size) {w1 w2 : mc_w} (K1 : mc_K mc_k 152 w1 s) (K2 : mc_K mr_k 3 w2 s) (hd1 : ∀ i j, i < 152 → j < 3 → w1.2.2.1 i ≠ w2.2.2.1 j) (hA1 : ∀ i, i < 152 → s.heap.size ≤ w1.2.2.1 i) (hA2 : ∀ i, i < 3 → s.heap.size ≤ w2.2.2.1 i) {R2 : Nat → Nat → Option Nat} {F : Nat} {Rl : (Nat → Nat → Int32) → (Nat → Nat → Option Nat) → (Nat → Nat → Int32) → Prop} (ho : mz_ops F Rl) {i : Nat} (hi : i + 4 ≤ L) (ih : ∀ (I : Nat → Nat → Int32) (R : Nat → Nat → Option Nat) (J : Nat → Nat → Int32) (H : Heap) (locs : List Loc) (ls : Array Slot), Rl I R J → mc_P mc_k 152 w1 I R H → mc_P mr_k 3 w2 J R2 H → va_S (fun q => s.heap.size ≤ q) s.heap H locs → lv_has ls 4 [(0, .ref b), (1, .ref (w1.2.2.1 144)), (2, .ref (w2.2.2.1 0)), (3, .int (nI i))] → W p l e room_1 s m #[Value.ref b] below meth c H locs 155 3064 (lw_Z below #[Value.ref b] s) (F0 m 747 ls [])) : ∀ {I : Nat → Nat → Int32} {R : Nat → Nat → Option Nat} {J : Nat → Nat → Int32} {H : Heap} {locs : List Loc} {ls : Array Slot}, Rl I R J → mc_P mc_k 152 w1 I R H → mc_P mr_k 3 w2 J R2 H → va_S (fun q => s.heap.size ≤ q) s.heap H locs → lv_has ls 4 [(0, .ref b), (1, .ref (w1.2.2.1 144)), (2, .ref (w2.2.2.1 0)), (3, .int (nI i))] → W p l e room_1 s m #[Value.ref b] below meth c H locs 155 3064 (lw_Z below #[Value.ref b] s) (F0 m 308 ls []) := by
  intro I R J H locs ls hR hP hP2 hS hl
  have hx := C.1
  have hb := C.2.1
  have hbA : ¬ (fun q : Nat => s.heap.size ≤ q) b := Nat.not_le.mpr hbl
  refine lv_aload_n hx hb dL_law_308 rfl (lv_at hl 1 rfl) ?_
  refine lv_aload_n hx hb dL_law_309 rfl (lv_at hl 0 rfl) ?_
  refine lv_iload_n hx hb dL_law_310 rfl (lv_at hl 3 rfl) ?_
  refine lv_iconst (v := 1) hx hb dL_law_311 (by decide) ?_
  refine lv_iadd hx hb dL_law_312 ?_
  refine mv_top (y := nI (i + 1)) (by rw [← nI_add]; rfl) ?_
  refine va_sld hx hb hX hbl hbA hS (vp_in_nI (n := i + 1) (by omega) (by omega)) dL_law_313 ?_
  refine mv_top (y := xs (i + 1)) (by rw [nI_clamp (by omega)]) ?_
  obtain ⟨I1, R1, J1, r, e1, e2, hR1⟩ := ho.2.2.2.2.2.2.1 I R J (xs (i + 1)) hR
  refine ml_V (As := [.int (xs (i + 1))]) (rest := []) (ct_X8_pass l (w := w1) (I := I) (R := R) e1) C K1 hP hP2 hd1 hA1 hS hl.1 kf_144 (by decide) rfl rfl ml_L_40 wy_X8_pass wd_X8_pass rfl rfl rfl ⟨Nat.le_of_ble_eq_true rfl, Nat.le_of_ble_eq_true rfl⟩ (Nat.le_of_ble_eq_true rfl) ⟨Nat.le_of_ble_eq_true rfl, Nat.le_of_ble_eq_true rfl⟩ dL_law_314 (fun H locs hP hP2 hS => ?_)
  refine lv_aload_n hx hb dL_law_317 rfl (lv_at hl 2 rfl) ?_
  refine lv_aload_n hx hb dL_law_318 rfl (lv_at hl 0 rfl) ?_
  refine lv_iload_n hx hb dL_law_319 rfl (lv_at hl 3 rfl) ?_
  refine lv_iconst (v := 1) hx hb dL_law_320 (by decide) ?_
  refine lv_iadd hx hb dL_law_321 ?_
  refine mv_top (y := nI (i + 1)) (by rw [← nI_add]; rfl) ?_
  refine va_sld hx hb hX hbl hbA hS (vp_in_nI (n := i + 1) (by omega) (by omega)) dL_law_322 ?_
  refine mv_top (y := xs (i + 1)) (by rw [nI_clamp (by omega)]) ?_
  refine ml_V (As := [.int (xs (i + 1))]) (rest := [.int r]) (ct_X9_pass l (w := w2) (I := J) (R := R2) e2) C K2 hP2 hP (fun i j hi hj h => hd1 j i hj hi h.symm) hA2 hS hl.1 kr_0 (by decide) rfl rfl ml_L_43 wy_X9_pass wd_X9_pass rfl rfl rfl ⟨Nat.le_of_ble_eq_true rfl, Nat.le_of_ble_eq_true rfl⟩ (Nat.le_of_ble_eq_true rfl) ⟨Nat.le_of_ble_eq_true rfl, Nat.le_of_ble_eq_true rfl⟩ dL_law_323 (fun H locs hP2 hP hS => ?_)
  refine lv_icmp_eq (tgt := 747) hx hb dL_law_326 (by decide) (fun _ => ?_) (fun cy => absurd rfl cy)
  exact ih _ _ _ _ _ _ hR1 hP hP2 hS hl
set_option maxHeartbeats 4000000 in
set_option maxRecDepth 100000 in
theorem lc_setWater {p : Program} {e : Env} {s : State} {m : MethodId} {below : List Frame} {meth : Method} {c : Code} (l : Launch) {b L : Nat} {xs : Nat → Int32} (hL : L ≤ 2048) (C : CallFix p m c code 4 s #[Value.ref b] mc_big RL) (hX : va_X b L xs s s.heap) (hbl : b < s.heap.size) {w1 w2 : mc_w} (K1 : mc_K mc_k 152 w1 s) (K2 : mc_K mr_k 3 w2 s) (hd1 : ∀ i j, i < 152 → j < 3 → w1.2.2.1 i ≠ w2.2.2.1 j) (hA1 : ∀ i, i < 152 → s.heap.size ≤ w1.2.2.1 i) (hA2 : ∀ i, i < 3 → s.heap.size ≤ w2.2.2.1 i) {R2 : Nat → Nat → Option Nat} {F : Nat} {Rl : (Nat → Nat → Int32) → (Nat → Nat → Option Nat) → (Nat → Nat → Int32) → Prop} (ho : mz_ops F Rl) {i : Nat} (hi : i + 4 ≤ L) (ih : ∀ (I : Nat → Nat → Int32) (R : Nat → Nat → Option Nat) (J : Nat → Nat → Int32) (H : Heap) (locs : List Loc) (ls : Array Slot), Rl I R J → mc_P mc_k 152 w1 I R H → mc_P mr_k 3 w2 J R2 H → va_S (fun q => s.heap.size ≤ q) s.heap H locs → lv_has ls 4 [(0, .ref b), (1, .ref (w1.2.2.1 144)), (2, .ref (w2.2.2.1 0)), (3, .int (nI i))] → W p l e room_1 s m #[Value.ref b] below meth c H locs 155 3064 (lw_Z below #[Value.ref b] s) (F0 m 747 ls [])) : ∀ {I : Nat → Nat → Int32} {R : Nat → Nat → Option Nat} {J : Nat → Nat → Int32} {H : Heap} {locs : List Loc} {ls : Array Slot}, Rl I R J → mc_P mc_k 152 w1 I R H → mc_P mr_k 3 w2 J R2 H → va_S (fun q => s.heap.size ≤ q) s.heap H locs → lv_has ls 4 [(0, .ref b), (1, .ref (w1.2.2.1 144)), (2, .ref (w2.2.2.1 0)), (3, .int (nI i))] → W p l e room_1 s m #[Value.ref b] below meth c H locs 155 3064 (lw_Z below #[Value.ref b] s) (F0 m 331 ls []) := by
  intro I R J H locs ls hR hP hP2 hS hl
  have hx := C.1
  have hb := C.2.1
  have hbA : ¬ (fun q : Nat => s.heap.size ≤ q) b := Nat.not_le.mpr hbl
  refine lv_aload_n hx hb dL_law_331 rfl (lv_at hl 1 rfl) ?_
  refine lv_aload_n hx hb dL_law_332 rfl (lv_at hl 0 rfl) ?_
  refine lv_iload_n hx hb dL_law_333 rfl (lv_at hl 3 rfl) ?_
  refine lv_iconst (v := 1) hx hb dL_law_334 (by decide) ?_
  refine lv_iadd hx hb dL_law_335 ?_
  refine mv_top (y := nI (i + 1)) (by rw [← nI_add]; rfl) ?_
  refine va_sld hx hb hX hbl hbA hS (vp_in_nI (n := i + 1) (by omega) (by omega)) dL_law_336 ?_
  refine mv_top (y := xs (i + 1)) (by rw [nI_clamp (by omega)]) ?_
  refine lv_aload_n hx hb dL_law_337 rfl (lv_at hl 0 rfl) ?_
  refine lv_iload_n hx hb dL_law_338 rfl (lv_at hl 3 rfl) ?_
  refine lv_iconst (v := 2) hx hb dL_law_339 (by decide) ?_
  refine lv_iadd hx hb dL_law_340 ?_
  refine mv_top (y := nI (i + 2)) (by rw [← nI_add]; rfl) ?_
  refine va_sld hx hb hX hbl hbA hS (vp_in_nI (n := i + 2) (by omega) (by omega)) dL_law_341 ?_
  refine mv_top (y := xs (i + 2)) (by rw [nI_clamp (by omega)]) ?_
  refine lv_aload_n hx hb dL_law_342 rfl (lv_at hl 0 rfl) ?_
  refine lv_iload_n hx hb dL_law_343 rfl (lv_at hl 3 rfl) ?_
  refine lv_iconst (v := 3) hx hb dL_law_344 (by decide) ?_
  refine lv_iadd hx hb dL_law_345 ?_
  refine mv_top (y := nI (i + 3)) (by rw [← nI_add]; rfl) ?_
  refine va_sld hx hb hX hbl hbA hS (vp_in_nI (n := i + 3) (by omega) (by omega)) dL_law_346 ?_
  refine mv_top (y := xs (i + 3)) (by rw [nI_clamp (by omega)]) ?_
  obtain ⟨I1, R1, J1, r, e1, e2, hR1⟩ := ho.2.2.2.2.2.2.2.1 I R J (xs (i + 1)) (xs (i + 2)) (xs (i + 3)) hR
  refine ml_V (As := [.int (xs (i + 1)), .int (xs (i + 2)), .int (xs (i + 3))]) (rest := []) (ct_X8_setWater l (w := w1) (I := I) (R := R) e1) C K1 hP hP2 hd1 hA1 hS hl.1 kf_144 (by decide) rfl rfl ml_L_44 wy_X8_setWater wd_X8_setWater rfl rfl rfl ⟨Nat.le_of_ble_eq_true rfl, Nat.le_of_ble_eq_true rfl⟩ (Nat.le_of_ble_eq_true rfl) ⟨Nat.le_of_ble_eq_true rfl, Nat.le_of_ble_eq_true rfl⟩ dL_law_347 (fun H locs hP hP2 hS => ?_)
  refine lv_aload_n hx hb dL_law_350 rfl (lv_at hl 2 rfl) ?_
  refine lv_aload_n hx hb dL_law_351 rfl (lv_at hl 0 rfl) ?_
  refine lv_iload_n hx hb dL_law_352 rfl (lv_at hl 3 rfl) ?_
  refine lv_iconst (v := 1) hx hb dL_law_353 (by decide) ?_
  refine lv_iadd hx hb dL_law_354 ?_
  refine mv_top (y := nI (i + 1)) (by rw [← nI_add]; rfl) ?_
  refine va_sld hx hb hX hbl hbA hS (vp_in_nI (n := i + 1) (by omega) (by omega)) dL_law_355 ?_
  refine mv_top (y := xs (i + 1)) (by rw [nI_clamp (by omega)]) ?_
  refine lv_aload_n hx hb dL_law_356 rfl (lv_at hl 0 rfl) ?_
  refine lv_iload_n hx hb dL_law_357 rfl (lv_at hl 3 rfl) ?_
  refine lv_iconst (v := 2) hx hb dL_law_358 (by decide) ?_
  refine lv_iadd hx hb dL_law_359 ?_
  refine mv_top (y := nI (i + 2)) (by rw [← nI_add]; rfl) ?_
  refine va_sld hx hb hX hbl hbA hS (vp_in_nI (n := i + 2) (by omega) (by omega)) dL_law_360 ?_
  refine mv_top (y := xs (i + 2)) (by rw [nI_clamp (by omega)]) ?_
  refine lv_aload_n hx hb dL_law_361 rfl (lv_at hl 0 rfl) ?_
  refine lv_iload_n hx hb dL_law_362 rfl (lv_at hl 3 rfl) ?_
  refine lv_iconst (v := 3) hx hb dL_law_363 (by decide) ?_
  refine lv_iadd hx hb dL_law_364 ?_
  refine mv_top (y := nI (i + 3)) (by rw [← nI_add]; rfl) ?_
  refine va_sld hx hb hX hbl hbA hS (vp_in_nI (n := i + 3) (by omega) (by omega)) dL_law_365 ?_
  refine mv_top (y := xs (i + 3)) (by rw [nI_clamp (by omega)]) ?_
  refine ml_V (As := [.int (xs (i + 1)), .int (xs (i + 2)), .int (xs (i + 3))]) (rest := [.int r]) (ct_X9_setWater l (w := w2) (I := J) (R := R2) e2) C K2 hP2 hP (fun i j hi hj h => hd1 j i hj hi h.symm) hA2 hS hl.1 kr_0 (by decide) rfl rfl ml_L_48 wy_X9_setWater wd_X9_setWater rfl rfl rfl ⟨Nat.le_of_ble_eq_true rfl, Nat.le_of_ble_eq_true rfl⟩ (Nat.le_of_ble_eq_true rfl) ⟨Nat.le_of_ble_eq_true rfl, Nat.le_of_ble_eq_true rfl⟩ dL_law_366 (fun H locs hP2 hP hS => ?_)
  refine lv_icmp_eq (tgt := 747) hx hb dL_law_369 (by decide) (fun _ => ?_) (fun cy => absurd rfl cy)
  exact ih _ _ _ _ _ _ hR1 hP hP2 hS hl
set_option maxHeartbeats 4000000 in
set_option maxRecDepth 100000 in
theorem lc_set {p : Program} {e : Env} {s : State} {m : MethodId} {below : List Frame} {meth : Method} {c : Code} (l : Launch) {b L : Nat} {xs : Nat → Int32} (hL : L ≤ 2048) (C : CallFix p m c code 4 s #[Value.ref b] mc_big RL) (hX : va_X b L xs s s.heap) (hbl : b < s.heap.size) {w1 w2 : mc_w} (K1 : mc_K mc_k 152 w1 s) (K2 : mc_K mr_k 3 w2 s) (hd1 : ∀ i j, i < 152 → j < 3 → w1.2.2.1 i ≠ w2.2.2.1 j) (hA1 : ∀ i, i < 152 → s.heap.size ≤ w1.2.2.1 i) (hA2 : ∀ i, i < 3 → s.heap.size ≤ w2.2.2.1 i) {R2 : Nat → Nat → Option Nat} {F : Nat} {Rl : (Nat → Nat → Int32) → (Nat → Nat → Option Nat) → (Nat → Nat → Int32) → Prop} (ho : mz_ops F Rl) {i : Nat} (hi : i + 4 ≤ L) (ih : ∀ (I : Nat → Nat → Int32) (R : Nat → Nat → Option Nat) (J : Nat → Nat → Int32) (H : Heap) (locs : List Loc) (ls : Array Slot), Rl I R J → mc_P mc_k 152 w1 I R H → mc_P mr_k 3 w2 J R2 H → va_S (fun q => s.heap.size ≤ q) s.heap H locs → lv_has ls 4 [(0, .ref b), (1, .ref (w1.2.2.1 144)), (2, .ref (w2.2.2.1 0)), (3, .int (nI i))] → W p l e room_1 s m #[Value.ref b] below meth c H locs 155 3064 (lw_Z below #[Value.ref b] s) (F0 m 747 ls [])) : ∀ {I : Nat → Nat → Int32} {R : Nat → Nat → Option Nat} {J : Nat → Nat → Int32} {H : Heap} {locs : List Loc} {ls : Array Slot}, Rl I R J → mc_P mc_k 152 w1 I R H → mc_P mr_k 3 w2 J R2 H → va_S (fun q => s.heap.size ≤ q) s.heap H locs → lv_has ls 4 [(0, .ref b), (1, .ref (w1.2.2.1 144)), (2, .ref (w2.2.2.1 0)), (3, .int (nI i))] → W p l e room_1 s m #[Value.ref b] below meth c H locs 155 3064 (lw_Z below #[Value.ref b] s) (F0 m 374 ls []) := by
  intro I R J H locs ls hR hP hP2 hS hl
  have hx := C.1
  have hb := C.2.1
  have hbA : ¬ (fun q : Nat => s.heap.size ≤ q) b := Nat.not_le.mpr hbl
  refine lv_aload_n hx hb dL_law_374 rfl (lv_at hl 1 rfl) ?_
  refine lv_aload_n hx hb dL_law_375 rfl (lv_at hl 0 rfl) ?_
  refine lv_iload_n hx hb dL_law_376 rfl (lv_at hl 3 rfl) ?_
  refine lv_iconst (v := 1) hx hb dL_law_377 (by decide) ?_
  refine lv_iadd hx hb dL_law_378 ?_
  refine mv_top (y := nI (i + 1)) (by rw [← nI_add]; rfl) ?_
  refine va_sld hx hb hX hbl hbA hS (vp_in_nI (n := i + 1) (by omega) (by omega)) dL_law_379 ?_
  refine mv_top (y := xs (i + 1)) (by rw [nI_clamp (by omega)]) ?_
  refine lv_aload_n hx hb dL_law_380 rfl (lv_at hl 0 rfl) ?_
  refine lv_iload_n hx hb dL_law_381 rfl (lv_at hl 3 rfl) ?_
  refine lv_iconst (v := 2) hx hb dL_law_382 (by decide) ?_
  refine lv_iadd hx hb dL_law_383 ?_
  refine mv_top (y := nI (i + 2)) (by rw [← nI_add]; rfl) ?_
  refine va_sld hx hb hX hbl hbA hS (vp_in_nI (n := i + 2) (by omega) (by omega)) dL_law_384 ?_
  refine mv_top (y := xs (i + 2)) (by rw [nI_clamp (by omega)]) ?_
  obtain ⟨I1, R1, J1, r, e1, e2, hR1⟩ := ho.2.2.2.2.2.2.2.2.1 I R J (xs (i + 1)) (xs (i + 2)) hR
  refine ml_V (As := [.int (xs (i + 1)), .int (xs (i + 2))]) (rest := []) (ct_X8_set l (w := w1) (I := I) (R := R) e1) C K1 hP hP2 hd1 hA1 hS hl.1 kf_144 (by decide) rfl rfl ml_L_49 wy_X8_set wd_X8_set rfl rfl rfl ⟨Nat.le_of_ble_eq_true rfl, Nat.le_of_ble_eq_true rfl⟩ (Nat.le_of_ble_eq_true rfl) ⟨Nat.le_of_ble_eq_true rfl, Nat.le_of_ble_eq_true rfl⟩ dL_law_385 (fun H locs hP hP2 hS => ?_)
  refine lv_aload_n hx hb dL_law_388 rfl (lv_at hl 2 rfl) ?_
  refine lv_aload_n hx hb dL_law_389 rfl (lv_at hl 0 rfl) ?_
  refine lv_iload_n hx hb dL_law_390 rfl (lv_at hl 3 rfl) ?_
  refine lv_iconst (v := 1) hx hb dL_law_391 (by decide) ?_
  refine lv_iadd hx hb dL_law_392 ?_
  refine mv_top (y := nI (i + 1)) (by rw [← nI_add]; rfl) ?_
  refine va_sld hx hb hX hbl hbA hS (vp_in_nI (n := i + 1) (by omega) (by omega)) dL_law_393 ?_
  refine mv_top (y := xs (i + 1)) (by rw [nI_clamp (by omega)]) ?_
  refine lv_aload_n hx hb dL_law_394 rfl (lv_at hl 0 rfl) ?_
  refine lv_iload_n hx hb dL_law_395 rfl (lv_at hl 3 rfl) ?_
  refine lv_iconst (v := 2) hx hb dL_law_396 (by decide) ?_
  refine lv_iadd hx hb dL_law_397 ?_
  refine mv_top (y := nI (i + 2)) (by rw [← nI_add]; rfl) ?_
  refine va_sld hx hb hX hbl hbA hS (vp_in_nI (n := i + 2) (by omega) (by omega)) dL_law_398 ?_
  refine mv_top (y := xs (i + 2)) (by rw [nI_clamp (by omega)]) ?_
  refine ml_V (As := [.int (xs (i + 1)), .int (xs (i + 2))]) (rest := [.int r]) (ct_X9_set l (w := w2) (I := J) (R := R2) e2) C K2 hP2 hP (fun i j hi hj h => hd1 j i hj hi h.symm) hA2 hS hl.1 kr_0 (by decide) rfl rfl ml_L_53 wy_X9_set wd_X9_set rfl rfl rfl ⟨Nat.le_of_ble_eq_true rfl, Nat.le_of_ble_eq_true rfl⟩ (Nat.le_of_ble_eq_true rfl) ⟨Nat.le_of_ble_eq_true rfl, Nat.le_of_ble_eq_true rfl⟩ dL_law_399 (fun H locs hP2 hP hS => ?_)
  refine lv_icmp_eq (tgt := 747) hx hb dL_law_402 (by decide) (fun _ => ?_) (fun cy => absurd rfl cy)
  exact ih _ _ _ _ _ _ hR1 hP hP2 hS hl
set_option maxHeartbeats 4000000 in
set_option maxRecDepth 100000 in
theorem lc_type {p : Program} {e : Env} {s : State} {m : MethodId} {below : List Frame} {meth : Method} {c : Code} (l : Launch) {b L : Nat} {xs : Nat → Int32} (hL : L ≤ 2048) (C : CallFix p m c code 4 s #[Value.ref b] mc_big RL) (hX : va_X b L xs s s.heap) (hbl : b < s.heap.size) {w1 w2 : mc_w} (K1 : mc_K mc_k 152 w1 s) (K2 : mc_K mr_k 3 w2 s) (hd1 : ∀ i j, i < 152 → j < 3 → w1.2.2.1 i ≠ w2.2.2.1 j) (hA1 : ∀ i, i < 152 → s.heap.size ≤ w1.2.2.1 i) (hA2 : ∀ i, i < 3 → s.heap.size ≤ w2.2.2.1 i) {R2 : Nat → Nat → Option Nat} {F : Nat} {Rl : (Nat → Nat → Int32) → (Nat → Nat → Option Nat) → (Nat → Nat → Int32) → Prop} (ho : mz_ops F Rl) {i : Nat} (hi : i + 4 ≤ L) (ih : ∀ (I : Nat → Nat → Int32) (R : Nat → Nat → Option Nat) (J : Nat → Nat → Int32) (H : Heap) (locs : List Loc) (ls : Array Slot), Rl I R J → mc_P mc_k 152 w1 I R H → mc_P mr_k 3 w2 J R2 H → va_S (fun q => s.heap.size ≤ q) s.heap H locs → lv_has ls 4 [(0, .ref b), (1, .ref (w1.2.2.1 144)), (2, .ref (w2.2.2.1 0)), (3, .int (nI i))] → W p l e room_1 s m #[Value.ref b] below meth c H locs 155 3064 (lw_Z below #[Value.ref b] s) (F0 m 747 ls [])) : ∀ {I : Nat → Nat → Int32} {R : Nat → Nat → Option Nat} {J : Nat → Nat → Int32} {H : Heap} {locs : List Loc} {ls : Array Slot}, Rl I R J → mc_P mc_k 152 w1 I R H → mc_P mr_k 3 w2 J R2 H → va_S (fun q => s.heap.size ≤ q) s.heap H locs → lv_has ls 4 [(0, .ref b), (1, .ref (w1.2.2.1 144)), (2, .ref (w2.2.2.1 0)), (3, .int (nI i))] → W p l e room_1 s m #[Value.ref b] below meth c H locs 155 3064 (lw_Z below #[Value.ref b] s) (F0 m 407 ls []) := by
  intro I R J H locs ls hR hP hP2 hS hl
  have hx := C.1
  have hb := C.2.1
  have hbA : ¬ (fun q : Nat => s.heap.size ≤ q) b := Nat.not_le.mpr hbl
  refine lv_aload_n hx hb dL_law_407 rfl (lv_at hl 1 rfl) ?_
  refine lv_aload_n hx hb dL_law_408 rfl (lv_at hl 0 rfl) ?_
  refine lv_iload_n hx hb dL_law_409 rfl (lv_at hl 3 rfl) ?_
  refine lv_iconst (v := 1) hx hb dL_law_410 (by decide) ?_
  refine lv_iadd hx hb dL_law_411 ?_
  refine mv_top (y := nI (i + 1)) (by rw [← nI_add]; rfl) ?_
  refine va_sld hx hb hX hbl hbA hS (vp_in_nI (n := i + 1) (by omega) (by omega)) dL_law_412 ?_
  refine mv_top (y := xs (i + 1)) (by rw [nI_clamp (by omega)]) ?_
  refine lv_i2c (v := ((xs (i + 1)).toUInt32 % 65536).toInt32) hx hb dL_law_413 rfl ?_
  obtain ⟨I1, J1, r, e1, e2, hR1⟩ := ho.2.2.2.2.2.2.2.2.2.1 I R J (((xs (i + 1)).toUInt32 % 65536).toInt32) hR ⟨_, rfl⟩
  refine ml_V (As := [.int (((xs (i + 1)).toUInt32 % 65536).toInt32)]) (rest := []) (ct_X8_type l (w := w1) (I := I) (R := R) e1) C K1 hP hP2 hd1 hA1 hS hl.1 kf_144 (by decide) rfl rfl ml_L_54 wy_X8_type wd_X8_type rfl rfl rfl ⟨Nat.le_of_ble_eq_true rfl, Nat.le_of_ble_eq_true rfl⟩ (Nat.le_of_ble_eq_true rfl) ⟨Nat.le_of_ble_eq_true rfl, Nat.le_of_ble_eq_true rfl⟩ dL_law_414 (fun H locs hP hP2 hS => ?_)
  refine lv_aload_n hx hb dL_law_417 rfl (lv_at hl 2 rfl) ?_
  refine lv_aload_n hx hb dL_law_418 rfl (lv_at hl 0 rfl) ?_
  refine lv_iload_n hx hb dL_law_419 rfl (lv_at hl 3 rfl) ?_
  refine lv_iconst (v := 1) hx hb dL_law_420 (by decide) ?_
  refine lv_iadd hx hb dL_law_421 ?_
  refine mv_top (y := nI (i + 1)) (by rw [← nI_add]; rfl) ?_
  refine va_sld hx hb hX hbl hbA hS (vp_in_nI (n := i + 1) (by omega) (by omega)) dL_law_422 ?_
  refine mv_top (y := xs (i + 1)) (by rw [nI_clamp (by omega)]) ?_
  refine lv_i2c (v := ((xs (i + 1)).toUInt32 % 65536).toInt32) hx hb dL_law_423 rfl ?_
  refine ml_V (As := [.int (((xs (i + 1)).toUInt32 % 65536).toInt32)]) (rest := [.int r]) (ct_X9_type l (w := w2) (I := J) (R := R2) e2) C K2 hP2 hP (fun i j hi hj h => hd1 j i hj hi h.symm) hA2 hS hl.1 kr_0 (by decide) rfl rfl ml_L_58 wy_X9_type wd_X9_type rfl rfl rfl ⟨Nat.le_of_ble_eq_true rfl, Nat.le_of_ble_eq_true rfl⟩ (Nat.le_of_ble_eq_true rfl) ⟨Nat.le_of_ble_eq_true rfl, Nat.le_of_ble_eq_true rfl⟩ dL_law_424 (fun H locs hP2 hP hS => ?_)
  refine lv_icmp_eq (tgt := 747) hx hb dL_law_427 (by decide) (fun _ => ?_) (fun cy => absurd rfl cy)
  exact ih _ _ _ _ _ _ hR1 hP hP2 hS hl
set_option maxHeartbeats 4000000 in
set_option maxRecDepth 100000 in
theorem lc_clearText {p : Program} {e : Env} {s : State} {m : MethodId} {below : List Frame} {meth : Method} {c : Code} (l : Launch) {b L : Nat} {xs : Nat → Int32} (hL : L ≤ 2048) (C : CallFix p m c code 4 s #[Value.ref b] mc_big RL) (hX : va_X b L xs s s.heap) (hbl : b < s.heap.size) {w1 w2 : mc_w} (K1 : mc_K mc_k 152 w1 s) (K2 : mc_K mr_k 3 w2 s) (hd1 : ∀ i j, i < 152 → j < 3 → w1.2.2.1 i ≠ w2.2.2.1 j) (hA1 : ∀ i, i < 152 → s.heap.size ≤ w1.2.2.1 i) (hA2 : ∀ i, i < 3 → s.heap.size ≤ w2.2.2.1 i) {R2 : Nat → Nat → Option Nat} {F : Nat} {Rl : (Nat → Nat → Int32) → (Nat → Nat → Option Nat) → (Nat → Nat → Int32) → Prop} (ho : mz_ops F Rl) {i : Nat} (hi : i + 4 ≤ L) (ih : ∀ (I : Nat → Nat → Int32) (R : Nat → Nat → Option Nat) (J : Nat → Nat → Int32) (H : Heap) (locs : List Loc) (ls : Array Slot), Rl I R J → mc_P mc_k 152 w1 I R H → mc_P mr_k 3 w2 J R2 H → va_S (fun q => s.heap.size ≤ q) s.heap H locs → lv_has ls 4 [(0, .ref b), (1, .ref (w1.2.2.1 144)), (2, .ref (w2.2.2.1 0)), (3, .int (nI i))] → W p l e room_1 s m #[Value.ref b] below meth c H locs 155 3064 (lw_Z below #[Value.ref b] s) (F0 m 747 ls [])) : ∀ {I : Nat → Nat → Int32} {R : Nat → Nat → Option Nat} {J : Nat → Nat → Int32} {H : Heap} {locs : List Loc} {ls : Array Slot}, Rl I R J → mc_P mc_k 152 w1 I R H → mc_P mr_k 3 w2 J R2 H → va_S (fun q => s.heap.size ≤ q) s.heap H locs → lv_has ls 4 [(0, .ref b), (1, .ref (w1.2.2.1 144)), (2, .ref (w2.2.2.1 0)), (3, .int (nI i))] → W p l e room_1 s m #[Value.ref b] below meth c H locs 155 3064 (lw_Z below #[Value.ref b] s) (F0 m 432 ls []) := by
  intro I R J H locs ls hR hP hP2 hS hl
  have hx := C.1
  have hb := C.2.1
  have hbA : ¬ (fun q : Nat => s.heap.size ≤ q) b := Nat.not_le.mpr hbl
  refine lv_aload_n hx hb dL_law_432 rfl (lv_at hl 1 rfl) ?_
  obtain ⟨I1, J1, r, e1, e2, hR1⟩ := ho.2.2.2.2.2.2.2.2.2.2.1 I R J  hR
  refine ml_V (As := []) (rest := []) (ct_X8_clearText l (w := w1) (I := I) (R := R) e1) C K1 hP hP2 hd1 hA1 hS hl.1 kf_144 (by decide) rfl rfl ml_L_59 wy_X8_clearText wd_X8_clearText rfl rfl rfl ⟨Nat.le_of_ble_eq_true rfl, Nat.le_of_ble_eq_true rfl⟩ (Nat.le_of_ble_eq_true rfl) ⟨Nat.le_of_ble_eq_true rfl, Nat.le_of_ble_eq_true rfl⟩ dL_law_433 (fun H locs hP hP2 hS => ?_)
  refine lv_aload_n hx hb dL_law_436 rfl (lv_at hl 2 rfl) ?_
  refine ml_V (As := []) (rest := [.int r]) (ct_X9_clearText l (w := w2) (I := J) (R := R2) e2) C K2 hP2 hP (fun i j hi hj h => hd1 j i hj hi h.symm) hA2 hS hl.1 kr_0 (by decide) rfl rfl ml_L_62 wy_X9_clearText wd_X9_clearText rfl rfl rfl ⟨Nat.le_of_ble_eq_true rfl, Nat.le_of_ble_eq_true rfl⟩ (Nat.le_of_ble_eq_true rfl) ⟨Nat.le_of_ble_eq_true rfl, Nat.le_of_ble_eq_true rfl⟩ dL_law_437 (fun H locs hP2 hP hS => ?_)
  refine lv_icmp_eq (tgt := 747) hx hb dL_law_440 (by decide) (fun _ => ?_) (fun cy => absurd rfl cy)
  exact ih _ _ _ _ _ _ hR1 hP hP2 hS hl
set_option maxHeartbeats 4000000 in
set_option maxRecDepth 100000 in
theorem lc_perform {p : Program} {e : Env} {s : State} {m : MethodId} {below : List Frame} {meth : Method} {c : Code} (l : Launch) {b L : Nat} {xs : Nat → Int32} (hL : L ≤ 2048) (C : CallFix p m c code 4 s #[Value.ref b] mc_big RL) (hX : va_X b L xs s s.heap) (hbl : b < s.heap.size) {w1 w2 : mc_w} (K1 : mc_K mc_k 152 w1 s) (K2 : mc_K mr_k 3 w2 s) (hd1 : ∀ i j, i < 152 → j < 3 → w1.2.2.1 i ≠ w2.2.2.1 j) (hA1 : ∀ i, i < 152 → s.heap.size ≤ w1.2.2.1 i) (hA2 : ∀ i, i < 3 → s.heap.size ≤ w2.2.2.1 i) {R2 : Nat → Nat → Option Nat} {F : Nat} {Rl : (Nat → Nat → Int32) → (Nat → Nat → Option Nat) → (Nat → Nat → Int32) → Prop} (ho : mz_ops F Rl) {i : Nat} (hi : i + 4 ≤ L) (ih : ∀ (I : Nat → Nat → Int32) (R : Nat → Nat → Option Nat) (J : Nat → Nat → Int32) (H : Heap) (locs : List Loc) (ls : Array Slot), Rl I R J → mc_P mc_k 152 w1 I R H → mc_P mr_k 3 w2 J R2 H → va_S (fun q => s.heap.size ≤ q) s.heap H locs → lv_has ls 4 [(0, .ref b), (1, .ref (w1.2.2.1 144)), (2, .ref (w2.2.2.1 0)), (3, .int (nI i))] → W p l e room_1 s m #[Value.ref b] below meth c H locs 155 3064 (lw_Z below #[Value.ref b] s) (F0 m 747 ls [])) : ∀ {I : Nat → Nat → Int32} {R : Nat → Nat → Option Nat} {J : Nat → Nat → Int32} {H : Heap} {locs : List Loc} {ls : Array Slot}, Rl I R J → mc_P mc_k 152 w1 I R H → mc_P mr_k 3 w2 J R2 H → va_S (fun q => s.heap.size ≤ q) s.heap H locs → lv_has ls 4 [(0, .ref b), (1, .ref (w1.2.2.1 144)), (2, .ref (w2.2.2.1 0)), (3, .int (nI i))] → W p l e room_1 s m #[Value.ref b] below meth c H locs 155 3064 (lw_Z below #[Value.ref b] s) (F0 m 445 ls []) := by
  intro I R J H locs ls hR hP hP2 hS hl
  have hx := C.1
  have hb := C.2.1
  have hbA : ¬ (fun q : Nat => s.heap.size ≤ q) b := Nat.not_le.mpr hbl
  refine lv_aload_n hx hb dL_law_445 rfl (lv_at hl 1 rfl) ?_
  obtain ⟨I1, R1, J1, r, e1, e2, hR1⟩ := ho.2.2.2.2.2.2.2.2.2.2.2.1 I R J  hR
  refine ml_V (As := []) (rest := []) (ct_X8_perform l (w := w1) (I := I) (R := R) e1) C K1 hP hP2 hd1 hA1 hS hl.1 kf_144 (by decide) rfl rfl ml_L_63 wy_X8_perform wd_X8_perform rfl rfl rfl ⟨Nat.le_of_ble_eq_true rfl, Nat.le_of_ble_eq_true rfl⟩ (Nat.le_of_ble_eq_true rfl) ⟨Nat.le_of_ble_eq_true rfl, Nat.le_of_ble_eq_true rfl⟩ dL_law_446 (fun H locs hP hP2 hS => ?_)
  refine lv_aload_n hx hb dL_law_449 rfl (lv_at hl 2 rfl) ?_
  refine ml_V (As := []) (rest := [.int r]) (ct_X9_perform l (w := w2) (I := J) (R := R2) e2) C K2 hP2 hP (fun i j hi hj h => hd1 j i hj hi h.symm) hA2 hS hl.1 kr_0 (by decide) rfl rfl ml_L_66 wy_X9_perform wd_X9_perform rfl rfl rfl ⟨Nat.le_of_ble_eq_true rfl, Nat.le_of_ble_eq_true rfl⟩ (Nat.le_of_ble_eq_true rfl) ⟨Nat.le_of_ble_eq_true rfl, Nat.le_of_ble_eq_true rfl⟩ dL_law_450 (fun H locs hP2 hP hS => ?_)
  refine lv_icmp_eq (tgt := 747) hx hb dL_law_453 (by decide) (fun _ => ?_) (fun cy => absurd rfl cy)
  exact ih _ _ _ _ _ _ hR1 hP hP2 hS hl
set_option maxHeartbeats 4000000 in
set_option maxRecDepth 100000 in
theorem lc_stopped {p : Program} {e : Env} {s : State} {m : MethodId} {below : List Frame} {meth : Method} {c : Code} (l : Launch) {b L : Nat} {xs : Nat → Int32} (hL : L ≤ 2048) (C : CallFix p m c code 4 s #[Value.ref b] mc_big RL) (hX : va_X b L xs s s.heap) (hbl : b < s.heap.size) {w1 w2 : mc_w} (K1 : mc_K mc_k 152 w1 s) (K2 : mc_K mr_k 3 w2 s) (hd1 : ∀ i j, i < 152 → j < 3 → w1.2.2.1 i ≠ w2.2.2.1 j) (hA1 : ∀ i, i < 152 → s.heap.size ≤ w1.2.2.1 i) (hA2 : ∀ i, i < 3 → s.heap.size ≤ w2.2.2.1 i) {R2 : Nat → Nat → Option Nat} {F : Nat} {Rl : (Nat → Nat → Int32) → (Nat → Nat → Option Nat) → (Nat → Nat → Int32) → Prop} (ho : mz_ops F Rl) {i : Nat} (hi : i + 4 ≤ L) (ih : ∀ (I : Nat → Nat → Int32) (R : Nat → Nat → Option Nat) (J : Nat → Nat → Int32) (H : Heap) (locs : List Loc) (ls : Array Slot), Rl I R J → mc_P mc_k 152 w1 I R H → mc_P mr_k 3 w2 J R2 H → va_S (fun q => s.heap.size ≤ q) s.heap H locs → lv_has ls 4 [(0, .ref b), (1, .ref (w1.2.2.1 144)), (2, .ref (w2.2.2.1 0)), (3, .int (nI i))] → W p l e room_1 s m #[Value.ref b] below meth c H locs 155 3064 (lw_Z below #[Value.ref b] s) (F0 m 747 ls [])) : ∀ {I : Nat → Nat → Int32} {R : Nat → Nat → Option Nat} {J : Nat → Nat → Int32} {H : Heap} {locs : List Loc} {ls : Array Slot}, Rl I R J → mc_P mc_k 152 w1 I R H → mc_P mr_k 3 w2 J R2 H → va_S (fun q => s.heap.size ≤ q) s.heap H locs → lv_has ls 4 [(0, .ref b), (1, .ref (w1.2.2.1 144)), (2, .ref (w2.2.2.1 0)), (3, .int (nI i))] → W p l e room_1 s m #[Value.ref b] below meth c H locs 155 3064 (lw_Z below #[Value.ref b] s) (F0 m 458 ls []) := by
  intro I R J H locs ls hR hP hP2 hS hl
  have hx := C.1
  have hb := C.2.1
  have hbA : ¬ (fun q : Nat => s.heap.size ≤ q) b := Nat.not_le.mpr hbl
  refine lv_aload_n hx hb dL_law_458 rfl (lv_at hl 1 rfl) ?_
  refine lv_aload_n hx hb dL_law_459 rfl (lv_at hl 0 rfl) ?_
  refine lv_iload_n hx hb dL_law_460 rfl (lv_at hl 3 rfl) ?_
  refine lv_iconst (v := 1) hx hb dL_law_461 (by decide) ?_
  refine lv_iadd hx hb dL_law_462 ?_
  refine mv_top (y := nI (i + 1)) (by rw [← nI_add]; rfl) ?_
  refine va_sld hx hb hX hbl hbA hS (vp_in_nI (n := i + 1) (by omega) (by omega)) dL_law_463 ?_
  refine mv_top (y := xs (i + 1)) (by rw [nI_clamp (by omega)]) ?_
  obtain ⟨r, e1, e2, hR1⟩ := ho.2.2.2.2.2.2.2.2.2.2.2.2.1 I R J (xs (i + 1)) hR
  refine ml_V (As := [.int (xs (i + 1))]) (rest := []) (ct_X8_stopped l (w := w1) (I := I) (R := R) e1) C K1 hP hP2 hd1 hA1 hS hl.1 kf_144 (by decide) rfl rfl ml_L_67 wy_X8_stopped wd_X8_stopped rfl rfl rfl ⟨Nat.le_of_ble_eq_true rfl, Nat.le_of_ble_eq_true rfl⟩ (Nat.le_of_ble_eq_true rfl) ⟨Nat.le_of_ble_eq_true rfl, Nat.le_of_ble_eq_true rfl⟩ dL_law_464 (fun H locs hP hP2 hS => ?_)
  refine lv_aload_n hx hb dL_law_467 rfl (lv_at hl 2 rfl) ?_
  refine lv_aload_n hx hb dL_law_468 rfl (lv_at hl 0 rfl) ?_
  refine lv_iload_n hx hb dL_law_469 rfl (lv_at hl 3 rfl) ?_
  refine lv_iconst (v := 1) hx hb dL_law_470 (by decide) ?_
  refine lv_iadd hx hb dL_law_471 ?_
  refine mv_top (y := nI (i + 1)) (by rw [← nI_add]; rfl) ?_
  refine va_sld hx hb hX hbl hbA hS (vp_in_nI (n := i + 1) (by omega) (by omega)) dL_law_472 ?_
  refine mv_top (y := xs (i + 1)) (by rw [nI_clamp (by omega)]) ?_
  refine ml_V (As := [.int (xs (i + 1))]) (rest := [.int r]) (ct_X9_stopped l (w := w2) (I := J) (R := R2) e2) C K2 hP2 hP (fun i j hi hj h => hd1 j i hj hi h.symm) hA2 hS hl.1 kr_0 (by decide) rfl rfl ml_L_70 wy_X9_stopped wd_X9_stopped rfl rfl rfl ⟨Nat.le_of_ble_eq_true rfl, Nat.le_of_ble_eq_true rfl⟩ (Nat.le_of_ble_eq_true rfl) ⟨Nat.le_of_ble_eq_true rfl, Nat.le_of_ble_eq_true rfl⟩ dL_law_473 (fun H locs hP2 hP hS => ?_)
  refine lv_icmp_eq (tgt := 747) hx hb dL_law_476 (by decide) (fun _ => ?_) (fun cy => absurd rfl cy)
  exact ih _ _ _ _ _ _ hR1 hP hP2 hS hl
set_option maxHeartbeats 4000000 in
set_option maxRecDepth 100000 in
theorem lc_undo {p : Program} {e : Env} {s : State} {m : MethodId} {below : List Frame} {meth : Method} {c : Code} (l : Launch) {b L : Nat} {xs : Nat → Int32} (hL : L ≤ 2048) (C : CallFix p m c code 4 s #[Value.ref b] mc_big RL) (hX : va_X b L xs s s.heap) (hbl : b < s.heap.size) {w1 w2 : mc_w} (K1 : mc_K mc_k 152 w1 s) (K2 : mc_K mr_k 3 w2 s) (hd1 : ∀ i j, i < 152 → j < 3 → w1.2.2.1 i ≠ w2.2.2.1 j) (hA1 : ∀ i, i < 152 → s.heap.size ≤ w1.2.2.1 i) (hA2 : ∀ i, i < 3 → s.heap.size ≤ w2.2.2.1 i) {R2 : Nat → Nat → Option Nat} {F : Nat} {Rl : (Nat → Nat → Int32) → (Nat → Nat → Option Nat) → (Nat → Nat → Int32) → Prop} (ho : mz_ops F Rl) {i : Nat} (hi : i + 4 ≤ L) (ih : ∀ (I : Nat → Nat → Int32) (R : Nat → Nat → Option Nat) (J : Nat → Nat → Int32) (H : Heap) (locs : List Loc) (ls : Array Slot), Rl I R J → mc_P mc_k 152 w1 I R H → mc_P mr_k 3 w2 J R2 H → va_S (fun q => s.heap.size ≤ q) s.heap H locs → lv_has ls 4 [(0, .ref b), (1, .ref (w1.2.2.1 144)), (2, .ref (w2.2.2.1 0)), (3, .int (nI i))] → W p l e room_1 s m #[Value.ref b] below meth c H locs 155 3064 (lw_Z below #[Value.ref b] s) (F0 m 747 ls [])) : ∀ {I : Nat → Nat → Int32} {R : Nat → Nat → Option Nat} {J : Nat → Nat → Int32} {H : Heap} {locs : List Loc} {ls : Array Slot}, Rl I R J → mc_P mc_k 152 w1 I R H → mc_P mr_k 3 w2 J R2 H → va_S (fun q => s.heap.size ≤ q) s.heap H locs → lv_has ls 4 [(0, .ref b), (1, .ref (w1.2.2.1 144)), (2, .ref (w2.2.2.1 0)), (3, .int (nI i))] → W p l e room_1 s m #[Value.ref b] below meth c H locs 155 3064 (lw_Z below #[Value.ref b] s) (F0 m 481 ls []) := by
  intro I R J H locs ls hR hP hP2 hS hl
  have hx := C.1
  have hb := C.2.1
  have hbA : ¬ (fun q : Nat => s.heap.size ≤ q) b := Nat.not_le.mpr hbl
  refine lv_aload_n hx hb dL_law_481 rfl (lv_at hl 1 rfl) ?_
  obtain ⟨I1, J1, r, e1, e2, hR1⟩ := ho.2.2.2.2.2.2.2.2.2.2.2.2.2.1 I R J  hR
  refine ml_V (As := []) (rest := []) (ct_X8_undo l (w := w1) (I := I) (R := R) e1) C K1 hP hP2 hd1 hA1 hS hl.1 kf_144 (by decide) rfl rfl ml_L_71 wy_X8_undo wd_X8_undo rfl rfl rfl ⟨Nat.le_of_ble_eq_true rfl, Nat.le_of_ble_eq_true rfl⟩ (Nat.le_of_ble_eq_true rfl) ⟨Nat.le_of_ble_eq_true rfl, Nat.le_of_ble_eq_true rfl⟩ dL_law_482 (fun H locs hP hP2 hS => ?_)
  refine lv_aload_n hx hb dL_law_485 rfl (lv_at hl 2 rfl) ?_
  refine ml_V (As := []) (rest := [.int r]) (ct_X9_undo l (w := w2) (I := J) (R := R2) e2) C K2 hP2 hP (fun i j hi hj h => hd1 j i hj hi h.symm) hA2 hS hl.1 kr_0 (by decide) rfl rfl ml_L_74 wy_X9_undo wd_X9_undo rfl rfl rfl ⟨Nat.le_of_ble_eq_true rfl, Nat.le_of_ble_eq_true rfl⟩ (Nat.le_of_ble_eq_true rfl) ⟨Nat.le_of_ble_eq_true rfl, Nat.le_of_ble_eq_true rfl⟩ dL_law_486 (fun H locs hP2 hP hS => ?_)
  refine lv_icmp_eq (tgt := 747) hx hb dL_law_489 (by decide) (fun _ => ?_) (fun cy => absurd rfl cy)
  exact ih _ _ _ _ _ _ hR1 hP hP2 hS hl
set_option maxHeartbeats 4000000 in
set_option maxRecDepth 100000 in
theorem lc_keep {p : Program} {e : Env} {s : State} {m : MethodId} {below : List Frame} {meth : Method} {c : Code} (l : Launch) {b L : Nat} {xs : Nat → Int32} (hL : L ≤ 2048) (C : CallFix p m c code 4 s #[Value.ref b] mc_big RL) (hX : va_X b L xs s s.heap) (hbl : b < s.heap.size) {w1 w2 : mc_w} (K1 : mc_K mc_k 152 w1 s) (K2 : mc_K mr_k 3 w2 s) (hd1 : ∀ i j, i < 152 → j < 3 → w1.2.2.1 i ≠ w2.2.2.1 j) (hA1 : ∀ i, i < 152 → s.heap.size ≤ w1.2.2.1 i) (hA2 : ∀ i, i < 3 → s.heap.size ≤ w2.2.2.1 i) {R2 : Nat → Nat → Option Nat} {F : Nat} {Rl : (Nat → Nat → Int32) → (Nat → Nat → Option Nat) → (Nat → Nat → Int32) → Prop} (ho : mz_ops F Rl) {i : Nat} (hi : i + 4 ≤ L) (ih : ∀ (I : Nat → Nat → Int32) (R : Nat → Nat → Option Nat) (J : Nat → Nat → Int32) (H : Heap) (locs : List Loc) (ls : Array Slot), Rl I R J → mc_P mc_k 152 w1 I R H → mc_P mr_k 3 w2 J R2 H → va_S (fun q => s.heap.size ≤ q) s.heap H locs → lv_has ls 4 [(0, .ref b), (1, .ref (w1.2.2.1 144)), (2, .ref (w2.2.2.1 0)), (3, .int (nI i))] → W p l e room_1 s m #[Value.ref b] below meth c H locs 155 3064 (lw_Z below #[Value.ref b] s) (F0 m 747 ls [])) : ∀ {I : Nat → Nat → Int32} {R : Nat → Nat → Option Nat} {J : Nat → Nat → Int32} {H : Heap} {locs : List Loc} {ls : Array Slot}, Rl I R J → mc_P mc_k 152 w1 I R H → mc_P mr_k 3 w2 J R2 H → va_S (fun q => s.heap.size ≤ q) s.heap H locs → lv_has ls 4 [(0, .ref b), (1, .ref (w1.2.2.1 144)), (2, .ref (w2.2.2.1 0)), (3, .int (nI i))] → W p l e room_1 s m #[Value.ref b] below meth c H locs 155 3064 (lw_Z below #[Value.ref b] s) (F0 m 494 ls []) := by
  intro I R J H locs ls hR hP hP2 hS hl
  have hx := C.1
  have hb := C.2.1
  have hbA : ¬ (fun q : Nat => s.heap.size ≤ q) b := Nat.not_le.mpr hbl
  refine lv_aload_n hx hb dL_law_494 rfl (lv_at hl 1 rfl) ?_
  obtain ⟨I1, J1, r, e1, e2, hR1⟩ := ho.2.2.2.2.2.2.2.2.2.2.2.2.2.2.1 I R J  hR
  refine ml_V (As := []) (rest := []) (ct_X8_keep l (w := w1) (I := I) (R := R) e1) C K1 hP hP2 hd1 hA1 hS hl.1 kf_144 (by decide) rfl rfl ml_L_75 wy_X8_keep wd_X8_keep rfl rfl rfl ⟨Nat.le_of_ble_eq_true rfl, Nat.le_of_ble_eq_true rfl⟩ (Nat.le_of_ble_eq_true rfl) ⟨Nat.le_of_ble_eq_true rfl, Nat.le_of_ble_eq_true rfl⟩ dL_law_495 (fun H locs hP hP2 hS => ?_)
  refine lv_aload_n hx hb dL_law_498 rfl (lv_at hl 2 rfl) ?_
  refine ml_V (As := []) (rest := [.int r]) (ct_X9_keep l (w := w2) (I := J) (R := R2) e2) C K2 hP2 hP (fun i j hi hj h => hd1 j i hj hi h.symm) hA2 hS hl.1 kr_0 (by decide) rfl rfl ml_L_78 wy_X9_keep wd_X9_keep rfl rfl rfl ⟨Nat.le_of_ble_eq_true rfl, Nat.le_of_ble_eq_true rfl⟩ (Nat.le_of_ble_eq_true rfl) ⟨Nat.le_of_ble_eq_true rfl, Nat.le_of_ble_eq_true rfl⟩ dL_law_499 (fun H locs hP2 hP hS => ?_)
  refine lv_icmp_eq (tgt := 747) hx hb dL_law_502 (by decide) (fun _ => ?_) (fun cy => absurd rfl cy)
  exact ih _ _ _ _ _ _ hR1 hP hP2 hS hl
set_option maxHeartbeats 4000000 in
set_option maxRecDepth 100000 in
theorem lc_restore {p : Program} {e : Env} {s : State} {m : MethodId} {below : List Frame} {meth : Method} {c : Code} (l : Launch) {b L : Nat} {xs : Nat → Int32} (hL : L ≤ 2048) (C : CallFix p m c code 4 s #[Value.ref b] mc_big RL) (hX : va_X b L xs s s.heap) (hbl : b < s.heap.size) {w1 w2 : mc_w} (K1 : mc_K mc_k 152 w1 s) (K2 : mc_K mr_k 3 w2 s) (hd1 : ∀ i j, i < 152 → j < 3 → w1.2.2.1 i ≠ w2.2.2.1 j) (hA1 : ∀ i, i < 152 → s.heap.size ≤ w1.2.2.1 i) (hA2 : ∀ i, i < 3 → s.heap.size ≤ w2.2.2.1 i) {R2 : Nat → Nat → Option Nat} {F : Nat} {Rl : (Nat → Nat → Int32) → (Nat → Nat → Option Nat) → (Nat → Nat → Int32) → Prop} (ho : mz_ops F Rl) {i : Nat} (hi : i + 4 ≤ L) (ih : ∀ (I : Nat → Nat → Int32) (R : Nat → Nat → Option Nat) (J : Nat → Nat → Int32) (H : Heap) (locs : List Loc) (ls : Array Slot), Rl I R J → mc_P mc_k 152 w1 I R H → mc_P mr_k 3 w2 J R2 H → va_S (fun q => s.heap.size ≤ q) s.heap H locs → lv_has ls 4 [(0, .ref b), (1, .ref (w1.2.2.1 144)), (2, .ref (w2.2.2.1 0)), (3, .int (nI i))] → W p l e room_1 s m #[Value.ref b] below meth c H locs 155 3064 (lw_Z below #[Value.ref b] s) (F0 m 747 ls [])) : ∀ {I : Nat → Nat → Int32} {R : Nat → Nat → Option Nat} {J : Nat → Nat → Int32} {H : Heap} {locs : List Loc} {ls : Array Slot}, Rl I R J → mc_P mc_k 152 w1 I R H → mc_P mr_k 3 w2 J R2 H → va_S (fun q => s.heap.size ≤ q) s.heap H locs → lv_has ls 4 [(0, .ref b), (1, .ref (w1.2.2.1 144)), (2, .ref (w2.2.2.1 0)), (3, .int (nI i))] → W p l e room_1 s m #[Value.ref b] below meth c H locs 155 3064 (lw_Z below #[Value.ref b] s) (F0 m 507 ls []) := by
  intro I R J H locs ls hR hP hP2 hS hl
  have hx := C.1
  have hb := C.2.1
  have hbA : ¬ (fun q : Nat => s.heap.size ≤ q) b := Nat.not_le.mpr hbl
  refine lv_aload_n hx hb dL_law_507 rfl (lv_at hl 1 rfl) ?_
  obtain ⟨I1, R1, J1, r, e1, e2, hR1⟩ := ho.2.2.2.2.2.2.2.2.2.2.2.2.2.2.2.1 I R J  hR
  refine ml_V (As := []) (rest := []) (ct_X8_restore l (w := w1) (I := I) (R := R) e1) C K1 hP hP2 hd1 hA1 hS hl.1 kf_144 (by decide) rfl rfl ml_L_79 wy_X8_restore wd_X8_restore rfl rfl rfl ⟨Nat.le_of_ble_eq_true rfl, Nat.le_of_ble_eq_true rfl⟩ (Nat.le_of_ble_eq_true rfl) ⟨Nat.le_of_ble_eq_true rfl, Nat.le_of_ble_eq_true rfl⟩ dL_law_508 (fun H locs hP hP2 hS => ?_)
  refine lv_aload_n hx hb dL_law_511 rfl (lv_at hl 2 rfl) ?_
  refine ml_V (As := []) (rest := [.int r]) (ct_X9_restore l (w := w2) (I := J) (R := R2) e2) C K2 hP2 hP (fun i j hi hj h => hd1 j i hj hi h.symm) hA2 hS hl.1 kr_0 (by decide) rfl rfl ml_L_82 wy_X9_restore wd_X9_restore rfl rfl rfl ⟨Nat.le_of_ble_eq_true rfl, Nat.le_of_ble_eq_true rfl⟩ (Nat.le_of_ble_eq_true rfl) ⟨Nat.le_of_ble_eq_true rfl, Nat.le_of_ble_eq_true rfl⟩ dL_law_512 (fun H locs hP2 hP hS => ?_)
  refine lv_icmp_eq (tgt := 747) hx hb dL_law_515 (by decide) (fun _ => ?_) (fun cy => absurd rfl cy)
  exact ih _ _ _ _ _ _ hR1 hP hP2 hS hl
set_option maxHeartbeats 4000000 in
set_option maxRecDepth 100000 in
theorem lc_bottle {p : Program} {e : Env} {s : State} {m : MethodId} {below : List Frame} {meth : Method} {c : Code} (l : Launch) {b L : Nat} {xs : Nat → Int32} (hL : L ≤ 2048) (C : CallFix p m c code 4 s #[Value.ref b] mc_big RL) (hX : va_X b L xs s s.heap) (hbl : b < s.heap.size) {w1 w2 : mc_w} (K1 : mc_K mc_k 152 w1 s) (K2 : mc_K mr_k 3 w2 s) (hd1 : ∀ i j, i < 152 → j < 3 → w1.2.2.1 i ≠ w2.2.2.1 j) (hA1 : ∀ i, i < 152 → s.heap.size ≤ w1.2.2.1 i) (hA2 : ∀ i, i < 3 → s.heap.size ≤ w2.2.2.1 i) {R2 : Nat → Nat → Option Nat} {F : Nat} {Rl : (Nat → Nat → Int32) → (Nat → Nat → Option Nat) → (Nat → Nat → Int32) → Prop} (ho : mz_ops F Rl) {i : Nat} (hi : i + 4 ≤ L) (ih : ∀ (I : Nat → Nat → Int32) (R : Nat → Nat → Option Nat) (J : Nat → Nat → Int32) (H : Heap) (locs : List Loc) (ls : Array Slot), Rl I R J → mc_P mc_k 152 w1 I R H → mc_P mr_k 3 w2 J R2 H → va_S (fun q => s.heap.size ≤ q) s.heap H locs → lv_has ls 4 [(0, .ref b), (1, .ref (w1.2.2.1 144)), (2, .ref (w2.2.2.1 0)), (3, .int (nI i))] → W p l e room_1 s m #[Value.ref b] below meth c H locs 155 3064 (lw_Z below #[Value.ref b] s) (F0 m 747 ls [])) : ∀ {I : Nat → Nat → Int32} {R : Nat → Nat → Option Nat} {J : Nat → Nat → Int32} {H : Heap} {locs : List Loc} {ls : Array Slot}, Rl I R J → mc_P mc_k 152 w1 I R H → mc_P mr_k 3 w2 J R2 H → va_S (fun q => s.heap.size ≤ q) s.heap H locs → lv_has ls 4 [(0, .ref b), (1, .ref (w1.2.2.1 144)), (2, .ref (w2.2.2.1 0)), (3, .int (nI i))] → W p l e room_1 s m #[Value.ref b] below meth c H locs 155 3064 (lw_Z below #[Value.ref b] s) (F0 m 520 ls []) := by
  intro I R J H locs ls hR hP hP2 hS hl
  have hx := C.1
  have hb := C.2.1
  have hbA : ¬ (fun q : Nat => s.heap.size ≤ q) b := Nat.not_le.mpr hbl
  refine lv_aload_n hx hb dL_law_520 rfl (lv_at hl 1 rfl) ?_
  refine lv_aload_n hx hb dL_law_521 rfl (lv_at hl 0 rfl) ?_
  refine lv_iload_n hx hb dL_law_522 rfl (lv_at hl 3 rfl) ?_
  refine lv_iconst (v := 1) hx hb dL_law_523 (by decide) ?_
  refine lv_iadd hx hb dL_law_524 ?_
  refine mv_top (y := nI (i + 1)) (by rw [← nI_add]; rfl) ?_
  refine va_sld hx hb hX hbl hbA hS (vp_in_nI (n := i + 1) (by omega) (by omega)) dL_law_525 ?_
  refine mv_top (y := xs (i + 1)) (by rw [nI_clamp (by omega)]) ?_
  refine lv_aload_n hx hb dL_law_526 rfl (lv_at hl 0 rfl) ?_
  refine lv_iload_n hx hb dL_law_527 rfl (lv_at hl 3 rfl) ?_
  refine lv_iconst (v := 2) hx hb dL_law_528 (by decide) ?_
  refine lv_iadd hx hb dL_law_529 ?_
  refine mv_top (y := nI (i + 2)) (by rw [← nI_add]; rfl) ?_
  refine va_sld hx hb hX hbl hbA hS (vp_in_nI (n := i + 2) (by omega) (by omega)) dL_law_530 ?_
  refine mv_top (y := xs (i + 2)) (by rw [nI_clamp (by omega)]) ?_
  obtain ⟨r, e1, e2, hR1⟩ := ho.2.2.2.2.2.2.2.2.2.2.2.2.2.2.2.2.1 I R J (xs (i + 1)) (xs (i + 2)) hR
  refine ml_V (As := [.int (xs (i + 1)), .int (xs (i + 2))]) (rest := []) (ct_X8_bottle l (w := w1) (I := I) (R := R) e1) C K1 hP hP2 hd1 hA1 hS hl.1 kf_144 (by decide) rfl rfl ml_L_83 wy_X8_bottle wd_X8_bottle rfl rfl rfl ⟨Nat.le_of_ble_eq_true rfl, Nat.le_of_ble_eq_true rfl⟩ (Nat.le_of_ble_eq_true rfl) ⟨Nat.le_of_ble_eq_true rfl, Nat.le_of_ble_eq_true rfl⟩ dL_law_531 (fun H locs hP hP2 hS => ?_)
  refine lv_aload_n hx hb dL_law_534 rfl (lv_at hl 2 rfl) ?_
  refine lv_aload_n hx hb dL_law_535 rfl (lv_at hl 0 rfl) ?_
  refine lv_iload_n hx hb dL_law_536 rfl (lv_at hl 3 rfl) ?_
  refine lv_iconst (v := 1) hx hb dL_law_537 (by decide) ?_
  refine lv_iadd hx hb dL_law_538 ?_
  refine mv_top (y := nI (i + 1)) (by rw [← nI_add]; rfl) ?_
  refine va_sld hx hb hX hbl hbA hS (vp_in_nI (n := i + 1) (by omega) (by omega)) dL_law_539 ?_
  refine mv_top (y := xs (i + 1)) (by rw [nI_clamp (by omega)]) ?_
  refine lv_aload_n hx hb dL_law_540 rfl (lv_at hl 0 rfl) ?_
  refine lv_iload_n hx hb dL_law_541 rfl (lv_at hl 3 rfl) ?_
  refine lv_iconst (v := 2) hx hb dL_law_542 (by decide) ?_
  refine lv_iadd hx hb dL_law_543 ?_
  refine mv_top (y := nI (i + 2)) (by rw [← nI_add]; rfl) ?_
  refine va_sld hx hb hX hbl hbA hS (vp_in_nI (n := i + 2) (by omega) (by omega)) dL_law_544 ?_
  refine mv_top (y := xs (i + 2)) (by rw [nI_clamp (by omega)]) ?_
  refine ml_V (As := [.int (xs (i + 1)), .int (xs (i + 2))]) (rest := [.int r]) (ct_X9_bottle l (w := w2) (I := J) (R := R2) e2) C K2 hP2 hP (fun i j hi hj h => hd1 j i hj hi h.symm) hA2 hS hl.1 kr_0 (by decide) rfl rfl ml_L_86 wy_X9_bottle wd_X9_bottle rfl rfl rfl ⟨Nat.le_of_ble_eq_true rfl, Nat.le_of_ble_eq_true rfl⟩ (Nat.le_of_ble_eq_true rfl) ⟨Nat.le_of_ble_eq_true rfl, Nat.le_of_ble_eq_true rfl⟩ dL_law_545 (fun H locs hP2 hP hS => ?_)
  refine lv_icmp_eq (tgt := 747) hx hb dL_law_548 (by decide) (fun _ => ?_) (fun cy => absurd rfl cy)
  exact ih _ _ _ _ _ _ hR1 hP hP2 hS hl
set_option maxHeartbeats 4000000 in
set_option maxRecDepth 100000 in
theorem lc_messenger {p : Program} {e : Env} {s : State} {m : MethodId} {below : List Frame} {meth : Method} {c : Code} (l : Launch) {b L : Nat} {xs : Nat → Int32} (hL : L ≤ 2048) (C : CallFix p m c code 4 s #[Value.ref b] mc_big RL) (hX : va_X b L xs s s.heap) (hbl : b < s.heap.size) {w1 w2 : mc_w} (K1 : mc_K mc_k 152 w1 s) (K2 : mc_K mr_k 3 w2 s) (hd1 : ∀ i j, i < 152 → j < 3 → w1.2.2.1 i ≠ w2.2.2.1 j) (hA1 : ∀ i, i < 152 → s.heap.size ≤ w1.2.2.1 i) (hA2 : ∀ i, i < 3 → s.heap.size ≤ w2.2.2.1 i) {R2 : Nat → Nat → Option Nat} {F : Nat} {Rl : (Nat → Nat → Int32) → (Nat → Nat → Option Nat) → (Nat → Nat → Int32) → Prop} (ho : mz_ops F Rl) {i : Nat} (hi : i + 4 ≤ L) (ih : ∀ (I : Nat → Nat → Int32) (R : Nat → Nat → Option Nat) (J : Nat → Nat → Int32) (H : Heap) (locs : List Loc) (ls : Array Slot), Rl I R J → mc_P mc_k 152 w1 I R H → mc_P mr_k 3 w2 J R2 H → va_S (fun q => s.heap.size ≤ q) s.heap H locs → lv_has ls 4 [(0, .ref b), (1, .ref (w1.2.2.1 144)), (2, .ref (w2.2.2.1 0)), (3, .int (nI i))] → W p l e room_1 s m #[Value.ref b] below meth c H locs 155 3064 (lw_Z below #[Value.ref b] s) (F0 m 747 ls [])) : ∀ {I : Nat → Nat → Int32} {R : Nat → Nat → Option Nat} {J : Nat → Nat → Int32} {H : Heap} {locs : List Loc} {ls : Array Slot}, Rl I R J → mc_P mc_k 152 w1 I R H → mc_P mr_k 3 w2 J R2 H → va_S (fun q => s.heap.size ≤ q) s.heap H locs → lv_has ls 4 [(0, .ref b), (1, .ref (w1.2.2.1 144)), (2, .ref (w2.2.2.1 0)), (3, .int (nI i))] → W p l e room_1 s m #[Value.ref b] below meth c H locs 155 3064 (lw_Z below #[Value.ref b] s) (F0 m 553 ls []) := by
  intro I R J H locs ls hR hP hP2 hS hl
  have hx := C.1
  have hb := C.2.1
  have hbA : ¬ (fun q : Nat => s.heap.size ≤ q) b := Nat.not_le.mpr hbl
  refine lv_aload_n hx hb dL_law_553 rfl (lv_at hl 1 rfl) ?_
  refine lv_aload_n hx hb dL_law_554 rfl (lv_at hl 0 rfl) ?_
  refine lv_iload_n hx hb dL_law_555 rfl (lv_at hl 3 rfl) ?_
  refine lv_iconst (v := 1) hx hb dL_law_556 (by decide) ?_
  refine lv_iadd hx hb dL_law_557 ?_
  refine mv_top (y := nI (i + 1)) (by rw [← nI_add]; rfl) ?_
  refine va_sld hx hb hX hbl hbA hS (vp_in_nI (n := i + 1) (by omega) (by omega)) dL_law_558 ?_
  refine mv_top (y := xs (i + 1)) (by rw [nI_clamp (by omega)]) ?_
  refine lv_aload_n hx hb dL_law_559 rfl (lv_at hl 0 rfl) ?_
  refine lv_iload_n hx hb dL_law_560 rfl (lv_at hl 3 rfl) ?_
  refine lv_iconst (v := 2) hx hb dL_law_561 (by decide) ?_
  refine lv_iadd hx hb dL_law_562 ?_
  refine mv_top (y := nI (i + 2)) (by rw [← nI_add]; rfl) ?_
  refine va_sld hx hb hX hbl hbA hS (vp_in_nI (n := i + 2) (by omega) (by omega)) dL_law_563 ?_
  refine mv_top (y := xs (i + 2)) (by rw [nI_clamp (by omega)]) ?_
  obtain ⟨r, e1, e2, hR1⟩ := ho.2.2.2.2.2.2.2.2.2.2.2.2.2.2.2.2.2.1 I R J (xs (i + 1)) (xs (i + 2)) hR
  refine ml_V (As := [.int (xs (i + 1)), .int (xs (i + 2))]) (rest := []) (ct_X8_messenger l (w := w1) (I := I) (R := R) e1) C K1 hP hP2 hd1 hA1 hS hl.1 kf_144 (by decide) rfl rfl ml_L_87 wy_X8_messenger wd_X8_messenger rfl rfl rfl ⟨Nat.le_of_ble_eq_true rfl, Nat.le_of_ble_eq_true rfl⟩ (Nat.le_of_ble_eq_true rfl) ⟨Nat.le_of_ble_eq_true rfl, Nat.le_of_ble_eq_true rfl⟩ dL_law_564 (fun H locs hP hP2 hS => ?_)
  refine lv_aload_n hx hb dL_law_567 rfl (lv_at hl 2 rfl) ?_
  refine lv_aload_n hx hb dL_law_568 rfl (lv_at hl 0 rfl) ?_
  refine lv_iload_n hx hb dL_law_569 rfl (lv_at hl 3 rfl) ?_
  refine lv_iconst (v := 1) hx hb dL_law_570 (by decide) ?_
  refine lv_iadd hx hb dL_law_571 ?_
  refine mv_top (y := nI (i + 1)) (by rw [← nI_add]; rfl) ?_
  refine va_sld hx hb hX hbl hbA hS (vp_in_nI (n := i + 1) (by omega) (by omega)) dL_law_572 ?_
  refine mv_top (y := xs (i + 1)) (by rw [nI_clamp (by omega)]) ?_
  refine lv_aload_n hx hb dL_law_573 rfl (lv_at hl 0 rfl) ?_
  refine lv_iload_n hx hb dL_law_574 rfl (lv_at hl 3 rfl) ?_
  refine lv_iconst (v := 2) hx hb dL_law_575 (by decide) ?_
  refine lv_iadd hx hb dL_law_576 ?_
  refine mv_top (y := nI (i + 2)) (by rw [← nI_add]; rfl) ?_
  refine va_sld hx hb hX hbl hbA hS (vp_in_nI (n := i + 2) (by omega) (by omega)) dL_law_577 ?_
  refine mv_top (y := xs (i + 2)) (by rw [nI_clamp (by omega)]) ?_
  refine ml_V (As := [.int (xs (i + 1)), .int (xs (i + 2))]) (rest := [.int r]) (ct_X9_messenger l (w := w2) (I := J) (R := R2) e2) C K2 hP2 hP (fun i j hi hj h => hd1 j i hj hi h.symm) hA2 hS hl.1 kr_0 (by decide) rfl rfl ml_L_90 wy_X9_messenger wd_X9_messenger rfl rfl rfl ⟨Nat.le_of_ble_eq_true rfl, Nat.le_of_ble_eq_true rfl⟩ (Nat.le_of_ble_eq_true rfl) ⟨Nat.le_of_ble_eq_true rfl, Nat.le_of_ble_eq_true rfl⟩ dL_law_578 (fun H locs hP2 hP hS => ?_)
  refine lv_icmp_eq (tgt := 747) hx hb dL_law_581 (by decide) (fun _ => ?_) (fun cy => absurd rfl cy)
  exact ih _ _ _ _ _ _ hR1 hP hP2 hS hl
set_option maxHeartbeats 4000000 in
set_option maxRecDepth 100000 in
theorem lc_layer {p : Program} {e : Env} {s : State} {m : MethodId} {below : List Frame} {meth : Method} {c : Code} (l : Launch) {b L : Nat} {xs : Nat → Int32} (hL : L ≤ 2048) (C : CallFix p m c code 4 s #[Value.ref b] mc_big RL) (hX : va_X b L xs s s.heap) (hbl : b < s.heap.size) {w1 w2 : mc_w} (K1 : mc_K mc_k 152 w1 s) (K2 : mc_K mr_k 3 w2 s) (hd1 : ∀ i j, i < 152 → j < 3 → w1.2.2.1 i ≠ w2.2.2.1 j) (hA1 : ∀ i, i < 152 → s.heap.size ≤ w1.2.2.1 i) (hA2 : ∀ i, i < 3 → s.heap.size ≤ w2.2.2.1 i) {R2 : Nat → Nat → Option Nat} {F : Nat} {Rl : (Nat → Nat → Int32) → (Nat → Nat → Option Nat) → (Nat → Nat → Int32) → Prop} (ho : mz_ops F Rl) {i : Nat} (hi : i + 4 ≤ L) (ih : ∀ (I : Nat → Nat → Int32) (R : Nat → Nat → Option Nat) (J : Nat → Nat → Int32) (H : Heap) (locs : List Loc) (ls : Array Slot), Rl I R J → mc_P mc_k 152 w1 I R H → mc_P mr_k 3 w2 J R2 H → va_S (fun q => s.heap.size ≤ q) s.heap H locs → lv_has ls 4 [(0, .ref b), (1, .ref (w1.2.2.1 144)), (2, .ref (w2.2.2.1 0)), (3, .int (nI i))] → W p l e room_1 s m #[Value.ref b] below meth c H locs 155 3064 (lw_Z below #[Value.ref b] s) (F0 m 747 ls [])) : ∀ {I : Nat → Nat → Int32} {R : Nat → Nat → Option Nat} {J : Nat → Nat → Int32} {H : Heap} {locs : List Loc} {ls : Array Slot}, Rl I R J → mc_P mc_k 152 w1 I R H → mc_P mr_k 3 w2 J R2 H → va_S (fun q => s.heap.size ≤ q) s.heap H locs → lv_has ls 4 [(0, .ref b), (1, .ref (w1.2.2.1 144)), (2, .ref (w2.2.2.1 0)), (3, .int (nI i))] → W p l e room_1 s m #[Value.ref b] below meth c H locs 155 3064 (lw_Z below #[Value.ref b] s) (F0 m 586 ls []) := by
  intro I R J H locs ls hR hP hP2 hS hl
  have hx := C.1
  have hb := C.2.1
  have hbA : ¬ (fun q : Nat => s.heap.size ≤ q) b := Nat.not_le.mpr hbl
  refine lv_aload_n hx hb dL_law_586 rfl (lv_at hl 1 rfl) ?_
  refine lv_aload_n hx hb dL_law_587 rfl (lv_at hl 0 rfl) ?_
  refine lv_iload_n hx hb dL_law_588 rfl (lv_at hl 3 rfl) ?_
  refine lv_iconst (v := 1) hx hb dL_law_589 (by decide) ?_
  refine lv_iadd hx hb dL_law_590 ?_
  refine mv_top (y := nI (i + 1)) (by rw [← nI_add]; rfl) ?_
  refine va_sld hx hb hX hbl hbA hS (vp_in_nI (n := i + 1) (by omega) (by omega)) dL_law_591 ?_
  refine mv_top (y := xs (i + 1)) (by rw [nI_clamp (by omega)]) ?_
  refine lv_aload_n hx hb dL_law_592 rfl (lv_at hl 0 rfl) ?_
  refine lv_iload_n hx hb dL_law_593 rfl (lv_at hl 3 rfl) ?_
  refine lv_iconst (v := 2) hx hb dL_law_594 (by decide) ?_
  refine lv_iadd hx hb dL_law_595 ?_
  refine mv_top (y := nI (i + 2)) (by rw [← nI_add]; rfl) ?_
  refine va_sld hx hb hX hbl hbA hS (vp_in_nI (n := i + 2) (by omega) (by omega)) dL_law_596 ?_
  refine mv_top (y := xs (i + 2)) (by rw [nI_clamp (by omega)]) ?_
  obtain ⟨r, e1, e2, hR1⟩ := ho.2.2.2.2.2.2.2.2.2.2.2.2.2.2.2.2.2.2.1 I R J (xs (i + 1)) (xs (i + 2)) hR
  refine ml_V (As := [.int (xs (i + 1)), .int (xs (i + 2))]) (rest := []) (ct_X8_layer l (w := w1) (I := I) (R := R) e1) C K1 hP hP2 hd1 hA1 hS hl.1 kf_144 (by decide) rfl rfl ml_L_91 wy_X8_layer wd_X8_layer rfl rfl rfl ⟨Nat.le_of_ble_eq_true rfl, Nat.le_of_ble_eq_true rfl⟩ (Nat.le_of_ble_eq_true rfl) ⟨Nat.le_of_ble_eq_true rfl, Nat.le_of_ble_eq_true rfl⟩ dL_law_597 (fun H locs hP hP2 hS => ?_)
  refine lv_aload_n hx hb dL_law_600 rfl (lv_at hl 2 rfl) ?_
  refine lv_aload_n hx hb dL_law_601 rfl (lv_at hl 0 rfl) ?_
  refine lv_iload_n hx hb dL_law_602 rfl (lv_at hl 3 rfl) ?_
  refine lv_iconst (v := 1) hx hb dL_law_603 (by decide) ?_
  refine lv_iadd hx hb dL_law_604 ?_
  refine mv_top (y := nI (i + 1)) (by rw [← nI_add]; rfl) ?_
  refine va_sld hx hb hX hbl hbA hS (vp_in_nI (n := i + 1) (by omega) (by omega)) dL_law_605 ?_
  refine mv_top (y := xs (i + 1)) (by rw [nI_clamp (by omega)]) ?_
  refine lv_aload_n hx hb dL_law_606 rfl (lv_at hl 0 rfl) ?_
  refine lv_iload_n hx hb dL_law_607 rfl (lv_at hl 3 rfl) ?_
  refine lv_iconst (v := 2) hx hb dL_law_608 (by decide) ?_
  refine lv_iadd hx hb dL_law_609 ?_
  refine mv_top (y := nI (i + 2)) (by rw [← nI_add]; rfl) ?_
  refine va_sld hx hb hX hbl hbA hS (vp_in_nI (n := i + 2) (by omega) (by omega)) dL_law_610 ?_
  refine mv_top (y := xs (i + 2)) (by rw [nI_clamp (by omega)]) ?_
  refine ml_V (As := [.int (xs (i + 1)), .int (xs (i + 2))]) (rest := [.int r]) (ct_X9_layer l (w := w2) (I := J) (R := R2) e2) C K2 hP2 hP (fun i j hi hj h => hd1 j i hj hi h.symm) hA2 hS hl.1 kr_0 (by decide) rfl rfl ml_L_94 wy_X9_layer wd_X9_layer rfl rfl rfl ⟨Nat.le_of_ble_eq_true rfl, Nat.le_of_ble_eq_true rfl⟩ (Nat.le_of_ble_eq_true rfl) ⟨Nat.le_of_ble_eq_true rfl, Nat.le_of_ble_eq_true rfl⟩ dL_law_611 (fun H locs hP2 hP hS => ?_)
  refine lv_icmp_eq (tgt := 747) hx hb dL_law_614 (by decide) (fun _ => ?_) (fun cy => absurd rfl cy)
  exact ih _ _ _ _ _ _ hR1 hP hP2 hS hl
set_option maxHeartbeats 4000000 in
set_option maxRecDepth 100000 in
theorem lc_depth {p : Program} {e : Env} {s : State} {m : MethodId} {below : List Frame} {meth : Method} {c : Code} (l : Launch) {b L : Nat} {xs : Nat → Int32} (hL : L ≤ 2048) (C : CallFix p m c code 4 s #[Value.ref b] mc_big RL) (hX : va_X b L xs s s.heap) (hbl : b < s.heap.size) {w1 w2 : mc_w} (K1 : mc_K mc_k 152 w1 s) (K2 : mc_K mr_k 3 w2 s) (hd1 : ∀ i j, i < 152 → j < 3 → w1.2.2.1 i ≠ w2.2.2.1 j) (hA1 : ∀ i, i < 152 → s.heap.size ≤ w1.2.2.1 i) (hA2 : ∀ i, i < 3 → s.heap.size ≤ w2.2.2.1 i) {R2 : Nat → Nat → Option Nat} {F : Nat} {Rl : (Nat → Nat → Int32) → (Nat → Nat → Option Nat) → (Nat → Nat → Int32) → Prop} (ho : mz_ops F Rl) {i : Nat} (hi : i + 4 ≤ L) (ih : ∀ (I : Nat → Nat → Int32) (R : Nat → Nat → Option Nat) (J : Nat → Nat → Int32) (H : Heap) (locs : List Loc) (ls : Array Slot), Rl I R J → mc_P mc_k 152 w1 I R H → mc_P mr_k 3 w2 J R2 H → va_S (fun q => s.heap.size ≤ q) s.heap H locs → lv_has ls 4 [(0, .ref b), (1, .ref (w1.2.2.1 144)), (2, .ref (w2.2.2.1 0)), (3, .int (nI i))] → W p l e room_1 s m #[Value.ref b] below meth c H locs 155 3064 (lw_Z below #[Value.ref b] s) (F0 m 747 ls [])) : ∀ {I : Nat → Nat → Int32} {R : Nat → Nat → Option Nat} {J : Nat → Nat → Int32} {H : Heap} {locs : List Loc} {ls : Array Slot}, Rl I R J → mc_P mc_k 152 w1 I R H → mc_P mr_k 3 w2 J R2 H → va_S (fun q => s.heap.size ≤ q) s.heap H locs → lv_has ls 4 [(0, .ref b), (1, .ref (w1.2.2.1 144)), (2, .ref (w2.2.2.1 0)), (3, .int (nI i))] → W p l e room_1 s m #[Value.ref b] below meth c H locs 155 3064 (lw_Z below #[Value.ref b] s) (F0 m 619 ls []) := by
  intro I R J H locs ls hR hP hP2 hS hl
  have hx := C.1
  have hb := C.2.1
  have hbA : ¬ (fun q : Nat => s.heap.size ≤ q) b := Nat.not_le.mpr hbl
  refine lv_aload_n hx hb dL_law_619 rfl (lv_at hl 1 rfl) ?_
  refine lv_aload_n hx hb dL_law_620 rfl (lv_at hl 0 rfl) ?_
  refine lv_iload_n hx hb dL_law_621 rfl (lv_at hl 3 rfl) ?_
  refine lv_iconst (v := 1) hx hb dL_law_622 (by decide) ?_
  refine lv_iadd hx hb dL_law_623 ?_
  refine mv_top (y := nI (i + 1)) (by rw [← nI_add]; rfl) ?_
  refine va_sld hx hb hX hbl hbA hS (vp_in_nI (n := i + 1) (by omega) (by omega)) dL_law_624 ?_
  refine mv_top (y := xs (i + 1)) (by rw [nI_clamp (by omega)]) ?_
  refine lv_aload_n hx hb dL_law_625 rfl (lv_at hl 0 rfl) ?_
  refine lv_iload_n hx hb dL_law_626 rfl (lv_at hl 3 rfl) ?_
  refine lv_iconst (v := 2) hx hb dL_law_627 (by decide) ?_
  refine lv_iadd hx hb dL_law_628 ?_
  refine mv_top (y := nI (i + 2)) (by rw [← nI_add]; rfl) ?_
  refine va_sld hx hb hX hbl hbA hS (vp_in_nI (n := i + 2) (by omega) (by omega)) dL_law_629 ?_
  refine mv_top (y := xs (i + 2)) (by rw [nI_clamp (by omega)]) ?_
  obtain ⟨r, e1, e2, hR1⟩ := ho.2.2.2.2.2.2.2.2.2.2.2.2.2.2.2.2.2.2.2.1 I R J (xs (i + 1)) (xs (i + 2)) hR
  refine ml_V (As := [.int (xs (i + 1)), .int (xs (i + 2))]) (rest := []) (ct_X8_depth l (w := w1) (I := I) (R := R) e1) C K1 hP hP2 hd1 hA1 hS hl.1 kf_144 (by decide) rfl rfl ml_L_95 wy_X8_depth wd_X8_depth rfl rfl rfl ⟨Nat.le_of_ble_eq_true rfl, Nat.le_of_ble_eq_true rfl⟩ (Nat.le_of_ble_eq_true rfl) ⟨Nat.le_of_ble_eq_true rfl, Nat.le_of_ble_eq_true rfl⟩ dL_law_630 (fun H locs hP hP2 hS => ?_)
  refine lv_aload_n hx hb dL_law_633 rfl (lv_at hl 2 rfl) ?_
  refine lv_aload_n hx hb dL_law_634 rfl (lv_at hl 0 rfl) ?_
  refine lv_iload_n hx hb dL_law_635 rfl (lv_at hl 3 rfl) ?_
  refine lv_iconst (v := 1) hx hb dL_law_636 (by decide) ?_
  refine lv_iadd hx hb dL_law_637 ?_
  refine mv_top (y := nI (i + 1)) (by rw [← nI_add]; rfl) ?_
  refine va_sld hx hb hX hbl hbA hS (vp_in_nI (n := i + 1) (by omega) (by omega)) dL_law_638 ?_
  refine mv_top (y := xs (i + 1)) (by rw [nI_clamp (by omega)]) ?_
  refine lv_aload_n hx hb dL_law_639 rfl (lv_at hl 0 rfl) ?_
  refine lv_iload_n hx hb dL_law_640 rfl (lv_at hl 3 rfl) ?_
  refine lv_iconst (v := 2) hx hb dL_law_641 (by decide) ?_
  refine lv_iadd hx hb dL_law_642 ?_
  refine mv_top (y := nI (i + 2)) (by rw [← nI_add]; rfl) ?_
  refine va_sld hx hb hX hbl hbA hS (vp_in_nI (n := i + 2) (by omega) (by omega)) dL_law_643 ?_
  refine mv_top (y := xs (i + 2)) (by rw [nI_clamp (by omega)]) ?_
  refine ml_V (As := [.int (xs (i + 1)), .int (xs (i + 2))]) (rest := [.int r]) (ct_X9_depth l (w := w2) (I := J) (R := R2) e2) C K2 hP2 hP (fun i j hi hj h => hd1 j i hj hi h.symm) hA2 hS hl.1 kr_0 (by decide) rfl rfl ml_L_98 wy_X9_depth wd_X9_depth rfl rfl rfl ⟨Nat.le_of_ble_eq_true rfl, Nat.le_of_ble_eq_true rfl⟩ (Nat.le_of_ble_eq_true rfl) ⟨Nat.le_of_ble_eq_true rfl, Nat.le_of_ble_eq_true rfl⟩ dL_law_644 (fun H locs hP2 hP hS => ?_)
  refine lv_icmp_eq (tgt := 747) hx hb dL_law_647 (by decide) (fun _ => ?_) (fun cy => absurd rfl cy)
  exact ih _ _ _ _ _ _ hR1 hP hP2 hS hl
set_option maxHeartbeats 4000000 in
set_option maxRecDepth 100000 in
theorem lc_reason {p : Program} {e : Env} {s : State} {m : MethodId} {below : List Frame} {meth : Method} {c : Code} (l : Launch) {b L : Nat} {xs : Nat → Int32} (hL : L ≤ 2048) (C : CallFix p m c code 4 s #[Value.ref b] mc_big RL) (hX : va_X b L xs s s.heap) (hbl : b < s.heap.size) {w1 w2 : mc_w} (K1 : mc_K mc_k 152 w1 s) (K2 : mc_K mr_k 3 w2 s) (hd1 : ∀ i j, i < 152 → j < 3 → w1.2.2.1 i ≠ w2.2.2.1 j) (hA1 : ∀ i, i < 152 → s.heap.size ≤ w1.2.2.1 i) (hA2 : ∀ i, i < 3 → s.heap.size ≤ w2.2.2.1 i) {R2 : Nat → Nat → Option Nat} {F : Nat} {Rl : (Nat → Nat → Int32) → (Nat → Nat → Option Nat) → (Nat → Nat → Int32) → Prop} (ho : mz_ops F Rl) {i : Nat} (hi : i + 4 ≤ L) (ih : ∀ (I : Nat → Nat → Int32) (R : Nat → Nat → Option Nat) (J : Nat → Nat → Int32) (H : Heap) (locs : List Loc) (ls : Array Slot), Rl I R J → mc_P mc_k 152 w1 I R H → mc_P mr_k 3 w2 J R2 H → va_S (fun q => s.heap.size ≤ q) s.heap H locs → lv_has ls 4 [(0, .ref b), (1, .ref (w1.2.2.1 144)), (2, .ref (w2.2.2.1 0)), (3, .int (nI i))] → W p l e room_1 s m #[Value.ref b] below meth c H locs 155 3064 (lw_Z below #[Value.ref b] s) (F0 m 747 ls [])) : ∀ {I : Nat → Nat → Int32} {R : Nat → Nat → Option Nat} {J : Nat → Nat → Int32} {H : Heap} {locs : List Loc} {ls : Array Slot}, Rl I R J → mc_P mc_k 152 w1 I R H → mc_P mr_k 3 w2 J R2 H → va_S (fun q => s.heap.size ≤ q) s.heap H locs → lv_has ls 4 [(0, .ref b), (1, .ref (w1.2.2.1 144)), (2, .ref (w2.2.2.1 0)), (3, .int (nI i))] → W p l e room_1 s m #[Value.ref b] below meth c H locs 155 3064 (lw_Z below #[Value.ref b] s) (F0 m 652 ls []) := by
  intro I R J H locs ls hR hP hP2 hS hl
  have hx := C.1
  have hb := C.2.1
  have hbA : ¬ (fun q : Nat => s.heap.size ≤ q) b := Nat.not_le.mpr hbl
  refine lv_aload_n hx hb dL_law_652 rfl (lv_at hl 1 rfl) ?_
  refine lv_aload_n hx hb dL_law_653 rfl (lv_at hl 0 rfl) ?_
  refine lv_iload_n hx hb dL_law_654 rfl (lv_at hl 3 rfl) ?_
  refine lv_iconst (v := 1) hx hb dL_law_655 (by decide) ?_
  refine lv_iadd hx hb dL_law_656 ?_
  refine mv_top (y := nI (i + 1)) (by rw [← nI_add]; rfl) ?_
  refine va_sld hx hb hX hbl hbA hS (vp_in_nI (n := i + 1) (by omega) (by omega)) dL_law_657 ?_
  refine mv_top (y := xs (i + 1)) (by rw [nI_clamp (by omega)]) ?_
  obtain ⟨I1, J1, r, e1, e2, hR1⟩ := ho.2.2.2.2.2.2.2.2.2.2.2.2.2.2.2.2.2.2.2.2.1 I R J (xs (i + 1)) hR
  refine ml_V (As := [.int (xs (i + 1))]) (rest := []) (ct_X8_reason l (w := w1) (I := I) (R := R) e1) C K1 hP hP2 hd1 hA1 hS hl.1 kf_144 (by decide) rfl rfl ml_L_99 wy_X8_reason wd_X8_reason rfl rfl rfl ⟨Nat.le_of_ble_eq_true rfl, Nat.le_of_ble_eq_true rfl⟩ (Nat.le_of_ble_eq_true rfl) ⟨Nat.le_of_ble_eq_true rfl, Nat.le_of_ble_eq_true rfl⟩ dL_law_658 (fun H locs hP hP2 hS => ?_)
  refine lv_aload_n hx hb dL_law_661 rfl (lv_at hl 2 rfl) ?_
  refine lv_aload_n hx hb dL_law_662 rfl (lv_at hl 0 rfl) ?_
  refine lv_iload_n hx hb dL_law_663 rfl (lv_at hl 3 rfl) ?_
  refine lv_iconst (v := 1) hx hb dL_law_664 (by decide) ?_
  refine lv_iadd hx hb dL_law_665 ?_
  refine mv_top (y := nI (i + 1)) (by rw [← nI_add]; rfl) ?_
  refine va_sld hx hb hX hbl hbA hS (vp_in_nI (n := i + 1) (by omega) (by omega)) dL_law_666 ?_
  refine mv_top (y := xs (i + 1)) (by rw [nI_clamp (by omega)]) ?_
  refine ml_V (As := [.int (xs (i + 1))]) (rest := [.int r]) (ct_X9_reason l (w := w2) (I := J) (R := R2) e2) C K2 hP2 hP (fun i j hi hj h => hd1 j i hj hi h.symm) hA2 hS hl.1 kr_0 (by decide) rfl rfl ml_L_102 wy_X9_reason wd_X9_reason rfl rfl rfl ⟨Nat.le_of_ble_eq_true rfl, Nat.le_of_ble_eq_true rfl⟩ (Nat.le_of_ble_eq_true rfl) ⟨Nat.le_of_ble_eq_true rfl, Nat.le_of_ble_eq_true rfl⟩ dL_law_667 (fun H locs hP2 hP hS => ?_)
  refine lv_icmp_eq (tgt := 747) hx hb dL_law_670 (by decide) (fun _ => ?_) (fun cy => absurd rfl cy)
  exact ih _ _ _ _ _ _ hR1 hP hP2 hS hl
set_option maxHeartbeats 4000000 in
set_option maxRecDepth 100000 in
theorem lc_shutIn {p : Program} {e : Env} {s : State} {m : MethodId} {below : List Frame} {meth : Method} {c : Code} (l : Launch) {b L : Nat} {xs : Nat → Int32} (hL : L ≤ 2048) (C : CallFix p m c code 4 s #[Value.ref b] mc_big RL) (hX : va_X b L xs s s.heap) (hbl : b < s.heap.size) {w1 w2 : mc_w} (K1 : mc_K mc_k 152 w1 s) (K2 : mc_K mr_k 3 w2 s) (hd1 : ∀ i j, i < 152 → j < 3 → w1.2.2.1 i ≠ w2.2.2.1 j) (hA1 : ∀ i, i < 152 → s.heap.size ≤ w1.2.2.1 i) (hA2 : ∀ i, i < 3 → s.heap.size ≤ w2.2.2.1 i) {R2 : Nat → Nat → Option Nat} {F : Nat} {Rl : (Nat → Nat → Int32) → (Nat → Nat → Option Nat) → (Nat → Nat → Int32) → Prop} (ho : mz_ops F Rl) {i : Nat} (hi : i + 4 ≤ L) (ih : ∀ (I : Nat → Nat → Int32) (R : Nat → Nat → Option Nat) (J : Nat → Nat → Int32) (H : Heap) (locs : List Loc) (ls : Array Slot), Rl I R J → mc_P mc_k 152 w1 I R H → mc_P mr_k 3 w2 J R2 H → va_S (fun q => s.heap.size ≤ q) s.heap H locs → lv_has ls 4 [(0, .ref b), (1, .ref (w1.2.2.1 144)), (2, .ref (w2.2.2.1 0)), (3, .int (nI i))] → W p l e room_1 s m #[Value.ref b] below meth c H locs 155 3064 (lw_Z below #[Value.ref b] s) (F0 m 747 ls [])) : ∀ {I : Nat → Nat → Int32} {R : Nat → Nat → Option Nat} {J : Nat → Nat → Int32} {H : Heap} {locs : List Loc} {ls : Array Slot}, Rl I R J → mc_P mc_k 152 w1 I R H → mc_P mr_k 3 w2 J R2 H → va_S (fun q => s.heap.size ≤ q) s.heap H locs → lv_has ls 4 [(0, .ref b), (1, .ref (w1.2.2.1 144)), (2, .ref (w2.2.2.1 0)), (3, .int (nI i))] → W p l e room_1 s m #[Value.ref b] below meth c H locs 155 3064 (lw_Z below #[Value.ref b] s) (F0 m 675 ls []) := by
  intro I R J H locs ls hR hP hP2 hS hl
  have hx := C.1
  have hb := C.2.1
  have hbA : ¬ (fun q : Nat => s.heap.size ≤ q) b := Nat.not_le.mpr hbl
  refine lv_aload_n hx hb dL_law_675 rfl (lv_at hl 1 rfl) ?_
  refine lv_aload_n hx hb dL_law_676 rfl (lv_at hl 0 rfl) ?_
  refine lv_iload_n hx hb dL_law_677 rfl (lv_at hl 3 rfl) ?_
  refine lv_iconst (v := 1) hx hb dL_law_678 (by decide) ?_
  refine lv_iadd hx hb dL_law_679 ?_
  refine mv_top (y := nI (i + 1)) (by rw [← nI_add]; rfl) ?_
  refine va_sld hx hb hX hbl hbA hS (vp_in_nI (n := i + 1) (by omega) (by omega)) dL_law_680 ?_
  refine mv_top (y := xs (i + 1)) (by rw [nI_clamp (by omega)]) ?_
  obtain ⟨I1, J1, r, e1, e2, hR1⟩ := ho.2.2.2.2.2.2.2.2.2.2.2.2.2.2.2.2.2.2.2.2.2.1 I R J (xs (i + 1)) hR
  refine ml_V (As := [.int (xs (i + 1))]) (rest := []) (ct_X8_shutIn l (w := w1) (I := I) (R := R) e1) C K1 hP hP2 hd1 hA1 hS hl.1 kf_144 (by decide) rfl rfl ml_L_103 wy_X8_shutIn wd_X8_shutIn rfl rfl rfl ⟨Nat.le_of_ble_eq_true rfl, Nat.le_of_ble_eq_true rfl⟩ (Nat.le_of_ble_eq_true rfl) ⟨Nat.le_of_ble_eq_true rfl, Nat.le_of_ble_eq_true rfl⟩ dL_law_681 (fun H locs hP hP2 hS => ?_)
  refine lv_aload_n hx hb dL_law_684 rfl (lv_at hl 2 rfl) ?_
  refine lv_aload_n hx hb dL_law_685 rfl (lv_at hl 0 rfl) ?_
  refine lv_iload_n hx hb dL_law_686 rfl (lv_at hl 3 rfl) ?_
  refine lv_iconst (v := 1) hx hb dL_law_687 (by decide) ?_
  refine lv_iadd hx hb dL_law_688 ?_
  refine mv_top (y := nI (i + 1)) (by rw [← nI_add]; rfl) ?_
  refine va_sld hx hb hX hbl hbA hS (vp_in_nI (n := i + 1) (by omega) (by omega)) dL_law_689 ?_
  refine mv_top (y := xs (i + 1)) (by rw [nI_clamp (by omega)]) ?_
  refine ml_V (As := [.int (xs (i + 1))]) (rest := [.int r]) (ct_X9_shutIn l (w := w2) (I := J) (R := R2) e2) C K2 hP2 hP (fun i j hi hj h => hd1 j i hj hi h.symm) hA2 hS hl.1 kr_0 (by decide) rfl rfl ml_L_106 wy_X9_shutIn wd_X9_shutIn rfl rfl rfl ⟨Nat.le_of_ble_eq_true rfl, Nat.le_of_ble_eq_true rfl⟩ (Nat.le_of_ble_eq_true rfl) ⟨Nat.le_of_ble_eq_true rfl, Nat.le_of_ble_eq_true rfl⟩ dL_law_690 (fun H locs hP2 hP hS => ?_)
  refine lv_icmp_eq (tgt := 747) hx hb dL_law_693 (by decide) (fun _ => ?_) (fun cy => absurd rfl cy)
  exact ih _ _ _ _ _ _ hR1 hP hP2 hS hl
set_option maxHeartbeats 4000000 in
set_option maxRecDepth 100000 in
theorem lc_quietIn {p : Program} {e : Env} {s : State} {m : MethodId} {below : List Frame} {meth : Method} {c : Code} (l : Launch) {b L : Nat} {xs : Nat → Int32} (hL : L ≤ 2048) (C : CallFix p m c code 4 s #[Value.ref b] mc_big RL) (hX : va_X b L xs s s.heap) (hbl : b < s.heap.size) {w1 w2 : mc_w} (K1 : mc_K mc_k 152 w1 s) (K2 : mc_K mr_k 3 w2 s) (hd1 : ∀ i j, i < 152 → j < 3 → w1.2.2.1 i ≠ w2.2.2.1 j) (hA1 : ∀ i, i < 152 → s.heap.size ≤ w1.2.2.1 i) (hA2 : ∀ i, i < 3 → s.heap.size ≤ w2.2.2.1 i) {R2 : Nat → Nat → Option Nat} {F : Nat} {Rl : (Nat → Nat → Int32) → (Nat → Nat → Option Nat) → (Nat → Nat → Int32) → Prop} (ho : mz_ops F Rl) {i : Nat} (hi : i + 4 ≤ L) (ih : ∀ (I : Nat → Nat → Int32) (R : Nat → Nat → Option Nat) (J : Nat → Nat → Int32) (H : Heap) (locs : List Loc) (ls : Array Slot), Rl I R J → mc_P mc_k 152 w1 I R H → mc_P mr_k 3 w2 J R2 H → va_S (fun q => s.heap.size ≤ q) s.heap H locs → lv_has ls 4 [(0, .ref b), (1, .ref (w1.2.2.1 144)), (2, .ref (w2.2.2.1 0)), (3, .int (nI i))] → W p l e room_1 s m #[Value.ref b] below meth c H locs 155 3064 (lw_Z below #[Value.ref b] s) (F0 m 747 ls [])) : ∀ {I : Nat → Nat → Int32} {R : Nat → Nat → Option Nat} {J : Nat → Nat → Int32} {H : Heap} {locs : List Loc} {ls : Array Slot}, Rl I R J → mc_P mc_k 152 w1 I R H → mc_P mr_k 3 w2 J R2 H → va_S (fun q => s.heap.size ≤ q) s.heap H locs → lv_has ls 4 [(0, .ref b), (1, .ref (w1.2.2.1 144)), (2, .ref (w2.2.2.1 0)), (3, .int (nI i))] → W p l e room_1 s m #[Value.ref b] below meth c H locs 155 3064 (lw_Z below #[Value.ref b] s) (F0 m 698 ls []) := by
  intro I R J H locs ls hR hP hP2 hS hl
  have hx := C.1
  have hb := C.2.1
  have hbA : ¬ (fun q : Nat => s.heap.size ≤ q) b := Nat.not_le.mpr hbl
  refine lv_aload_n hx hb dL_law_698 rfl (lv_at hl 1 rfl) ?_
  obtain ⟨I1, J1, r, e1, e2, hR1⟩ := ho.2.2.2.2.2.2.2.2.2.2.2.2.2.2.2.2.2.2.2.2.2.2.1 I R J  hR
  refine ml_V (As := []) (rest := []) (ct_X8_quietIn l (w := w1) (I := I) (R := R) e1) C K1 hP hP2 hd1 hA1 hS hl.1 kf_144 (by decide) rfl rfl ml_L_107 wy_X8_quietIn wd_X8_quietIn rfl rfl rfl ⟨Nat.le_of_ble_eq_true rfl, Nat.le_of_ble_eq_true rfl⟩ (Nat.le_of_ble_eq_true rfl) ⟨Nat.le_of_ble_eq_true rfl, Nat.le_of_ble_eq_true rfl⟩ dL_law_699 (fun H locs hP hP2 hS => ?_)
  refine lv_aload_n hx hb dL_law_702 rfl (lv_at hl 2 rfl) ?_
  refine ml_V (As := []) (rest := [.int r]) (ct_X9_quietIn l (w := w2) (I := J) (R := R2) e2) C K2 hP2 hP (fun i j hi hj h => hd1 j i hj hi h.symm) hA2 hS hl.1 kr_0 (by decide) rfl rfl ml_L_110 wy_X9_quietIn wd_X9_quietIn rfl rfl rfl ⟨Nat.le_of_ble_eq_true rfl, Nat.le_of_ble_eq_true rfl⟩ (Nat.le_of_ble_eq_true rfl) ⟨Nat.le_of_ble_eq_true rfl, Nat.le_of_ble_eq_true rfl⟩ dL_law_703 (fun H locs hP2 hP hS => ?_)
  refine lv_icmp_eq (tgt := 747) hx hb dL_law_706 (by decide) (fun _ => ?_) (fun cy => absurd rfl cy)
  exact ih _ _ _ _ _ _ hR1 hP hP2 hS hl
set_option maxHeartbeats 4000000 in
set_option maxRecDepth 100000 in
theorem lc_worst {p : Program} {e : Env} {s : State} {m : MethodId} {below : List Frame} {meth : Method} {c : Code} (l : Launch) {b L : Nat} {xs : Nat → Int32} (hL : L ≤ 2048) (C : CallFix p m c code 4 s #[Value.ref b] mc_big RL) (hX : va_X b L xs s s.heap) (hbl : b < s.heap.size) {w1 w2 : mc_w} (K1 : mc_K mc_k 152 w1 s) (K2 : mc_K mr_k 3 w2 s) (hd1 : ∀ i j, i < 152 → j < 3 → w1.2.2.1 i ≠ w2.2.2.1 j) (hA1 : ∀ i, i < 152 → s.heap.size ≤ w1.2.2.1 i) (hA2 : ∀ i, i < 3 → s.heap.size ≤ w2.2.2.1 i) {R2 : Nat → Nat → Option Nat} {F : Nat} {Rl : (Nat → Nat → Int32) → (Nat → Nat → Option Nat) → (Nat → Nat → Int32) → Prop} (ho : mz_ops F Rl) {i : Nat} (hi : i + 4 ≤ L) (ih : ∀ (I : Nat → Nat → Int32) (R : Nat → Nat → Option Nat) (J : Nat → Nat → Int32) (H : Heap) (locs : List Loc) (ls : Array Slot), Rl I R J → mc_P mc_k 152 w1 I R H → mc_P mr_k 3 w2 J R2 H → va_S (fun q => s.heap.size ≤ q) s.heap H locs → lv_has ls 4 [(0, .ref b), (1, .ref (w1.2.2.1 144)), (2, .ref (w2.2.2.1 0)), (3, .int (nI i))] → W p l e room_1 s m #[Value.ref b] below meth c H locs 155 3064 (lw_Z below #[Value.ref b] s) (F0 m 747 ls [])) : ∀ {I : Nat → Nat → Int32} {R : Nat → Nat → Option Nat} {J : Nat → Nat → Int32} {H : Heap} {locs : List Loc} {ls : Array Slot}, Rl I R J → mc_P mc_k 152 w1 I R H → mc_P mr_k 3 w2 J R2 H → va_S (fun q => s.heap.size ≤ q) s.heap H locs → lv_has ls 4 [(0, .ref b), (1, .ref (w1.2.2.1 144)), (2, .ref (w2.2.2.1 0)), (3, .int (nI i))] → W p l e room_1 s m #[Value.ref b] below meth c H locs 155 3064 (lw_Z below #[Value.ref b] s) (F0 m 711 ls []) := by
  intro I R J H locs ls hR hP hP2 hS hl
  have hx := C.1
  have hb := C.2.1
  have hbA : ¬ (fun q : Nat => s.heap.size ≤ q) b := Nat.not_le.mpr hbl
  refine lv_aload_n hx hb dL_law_711 rfl (lv_at hl 1 rfl) ?_
  obtain ⟨r, e1, e2, hR1⟩ := ho.2.2.2.2.2.2.2.2.2.2.2.2.2.2.2.2.2.2.2.2.2.2.2.1 I R J  hR
  refine ml_V (As := []) (rest := []) (ct_X8_worst l (w := w1) (I := I) (R := R) e1) C K1 hP hP2 hd1 hA1 hS hl.1 kf_144 (by decide) rfl rfl ml_L_111 wy_X8_worst wd_X8_worst rfl rfl rfl ⟨Nat.le_of_ble_eq_true rfl, Nat.le_of_ble_eq_true rfl⟩ (Nat.le_of_ble_eq_true rfl) ⟨Nat.le_of_ble_eq_true rfl, Nat.le_of_ble_eq_true rfl⟩ dL_law_712 (fun H locs hP hP2 hS => ?_)
  refine lv_aload_n hx hb dL_law_715 rfl (lv_at hl 2 rfl) ?_
  refine ml_V (As := []) (rest := [.int r]) (ct_X9_worst l (w := w2) (I := J) (R := R2) e2) C K2 hP2 hP (fun i j hi hj h => hd1 j i hj hi h.symm) hA2 hS hl.1 kr_0 (by decide) rfl rfl ml_L_114 wy_X9_worst wd_X9_worst rfl rfl rfl ⟨Nat.le_of_ble_eq_true rfl, Nat.le_of_ble_eq_true rfl⟩ (Nat.le_of_ble_eq_true rfl) ⟨Nat.le_of_ble_eq_true rfl, Nat.le_of_ble_eq_true rfl⟩ dL_law_716 (fun H locs hP2 hP hS => ?_)
  refine lv_icmp_eq (tgt := 747) hx hb dL_law_719 (by decide) (fun _ => ?_) (fun cy => absurd rfl cy)
  exact ih _ _ _ _ _ _ hR1 hP hP2 hS hl
set_option maxHeartbeats 4000000 in
set_option maxRecDepth 100000 in
theorem lc_count {p : Program} {e : Env} {s : State} {m : MethodId} {below : List Frame} {meth : Method} {c : Code} (l : Launch) {b L : Nat} {xs : Nat → Int32} (hL : L ≤ 2048) (C : CallFix p m c code 4 s #[Value.ref b] mc_big RL) (hX : va_X b L xs s s.heap) (hbl : b < s.heap.size) {w1 w2 : mc_w} (K1 : mc_K mc_k 152 w1 s) (K2 : mc_K mr_k 3 w2 s) (hd1 : ∀ i j, i < 152 → j < 3 → w1.2.2.1 i ≠ w2.2.2.1 j) (hA1 : ∀ i, i < 152 → s.heap.size ≤ w1.2.2.1 i) (hA2 : ∀ i, i < 3 → s.heap.size ≤ w2.2.2.1 i) {R2 : Nat → Nat → Option Nat} {F : Nat} {Rl : (Nat → Nat → Int32) → (Nat → Nat → Option Nat) → (Nat → Nat → Int32) → Prop} (ho : mz_ops F Rl) {i : Nat} (hi : i + 4 ≤ L) (ih : ∀ (I : Nat → Nat → Int32) (R : Nat → Nat → Option Nat) (J : Nat → Nat → Int32) (H : Heap) (locs : List Loc) (ls : Array Slot), Rl I R J → mc_P mc_k 152 w1 I R H → mc_P mr_k 3 w2 J R2 H → va_S (fun q => s.heap.size ≤ q) s.heap H locs → lv_has ls 4 [(0, .ref b), (1, .ref (w1.2.2.1 144)), (2, .ref (w2.2.2.1 0)), (3, .int (nI i))] → W p l e room_1 s m #[Value.ref b] below meth c H locs 155 3064 (lw_Z below #[Value.ref b] s) (F0 m 747 ls [])) : ∀ {I : Nat → Nat → Int32} {R : Nat → Nat → Option Nat} {J : Nat → Nat → Int32} {H : Heap} {locs : List Loc} {ls : Array Slot}, Rl I R J → mc_P mc_k 152 w1 I R H → mc_P mr_k 3 w2 J R2 H → va_S (fun q => s.heap.size ≤ q) s.heap H locs → lv_has ls 4 [(0, .ref b), (1, .ref (w1.2.2.1 144)), (2, .ref (w2.2.2.1 0)), (3, .int (nI i))] → W p l e room_1 s m #[Value.ref b] below meth c H locs 155 3064 (lw_Z below #[Value.ref b] s) (F0 m 724 ls []) := by
  intro I R J H locs ls hR hP hP2 hS hl
  have hx := C.1
  have hb := C.2.1
  have hbA : ¬ (fun q : Nat => s.heap.size ≤ q) b := Nat.not_le.mpr hbl
  refine lv_aload_n hx hb dL_law_724 rfl (lv_at hl 1 rfl) ?_
  refine lv_aload_n hx hb dL_law_725 rfl (lv_at hl 0 rfl) ?_
  refine lv_iload_n hx hb dL_law_726 rfl (lv_at hl 3 rfl) ?_
  refine lv_iconst (v := 1) hx hb dL_law_727 (by decide) ?_
  refine lv_iadd hx hb dL_law_728 ?_
  refine mv_top (y := nI (i + 1)) (by rw [← nI_add]; rfl) ?_
  refine va_sld hx hb hX hbl hbA hS (vp_in_nI (n := i + 1) (by omega) (by omega)) dL_law_729 ?_
  refine mv_top (y := xs (i + 1)) (by rw [nI_clamp (by omega)]) ?_
  obtain ⟨r, e1, e2, hR1⟩ := ho.2.2.2.2.2.2.2.2.2.2.2.2.2.2.2.2.2.2.2.2.2.2.2.2 I R J (xs (i + 1)) hR
  refine ml_V (As := [.int (xs (i + 1))]) (rest := []) (ct_X8_count l (w := w1) (I := I) (R := R) e1) C K1 hP hP2 hd1 hA1 hS hl.1 kf_144 (by decide) rfl rfl ml_L_115 wy_X8_count wd_X8_count rfl rfl rfl ⟨Nat.le_of_ble_eq_true rfl, Nat.le_of_ble_eq_true rfl⟩ (Nat.le_of_ble_eq_true rfl) ⟨Nat.le_of_ble_eq_true rfl, Nat.le_of_ble_eq_true rfl⟩ dL_law_730 (fun H locs hP hP2 hS => ?_)
  refine lv_aload_n hx hb dL_law_733 rfl (lv_at hl 2 rfl) ?_
  refine lv_aload_n hx hb dL_law_734 rfl (lv_at hl 0 rfl) ?_
  refine lv_iload_n hx hb dL_law_735 rfl (lv_at hl 3 rfl) ?_
  refine lv_iconst (v := 1) hx hb dL_law_736 (by decide) ?_
  refine lv_iadd hx hb dL_law_737 ?_
  refine mv_top (y := nI (i + 1)) (by rw [← nI_add]; rfl) ?_
  refine va_sld hx hb hX hbl hbA hS (vp_in_nI (n := i + 1) (by omega) (by omega)) dL_law_738 ?_
  refine mv_top (y := xs (i + 1)) (by rw [nI_clamp (by omega)]) ?_
  refine ml_V (As := [.int (xs (i + 1))]) (rest := [.int r]) (ct_X9_count l (w := w2) (I := J) (R := R2) e2) C K2 hP2 hP (fun i j hi hj h => hd1 j i hj hi h.symm) hA2 hS hl.1 kr_0 (by decide) rfl rfl ml_L_118 wy_X9_count wd_X9_count rfl rfl rfl ⟨Nat.le_of_ble_eq_true rfl, Nat.le_of_ble_eq_true rfl⟩ (Nat.le_of_ble_eq_true rfl) ⟨Nat.le_of_ble_eq_true rfl, Nat.le_of_ble_eq_true rfl⟩ dL_law_739 (fun H locs hP2 hP hS => ?_)
  refine lv_icmp_eq (tgt := 747) hx hb dL_law_742 (by decide) (fun _ => ?_) (fun cy => absurd rfl cy)
  exact ih _ _ _ _ _ _ hR1 hP hP2 hS hl
theorem mz_le4 {L i : Nat} (hL : L ≤ 2048) (hi : i ≤ L) (h : ¬ Int32.ofNat L - 4 < nI i) : i + 4 ≤ L := by
  rcases Nat.lt_or_ge L 4 with h4 | h4
  · exfalso
    apply h
    rw [Int32.lt_iff_toInt_lt, nI_toInt (by omega)]
    have h5 : (Int32.ofNat L - 4).toInt < 0 := by
      rcases (show L = 0 ∨ L = 1 ∨ L = 2 ∨ L = 3 by omega) with rfl | rfl | rfl | rfl <;> decide
    omega
  · rw [show Int32.ofNat L - 4 = nI (L - 4) from pk_sub (a := L) (b := 4) h4] at h
    rw [nI_ltI (by omega) (by omega)] at h
    omega
set_option maxHeartbeats 4000000 in
set_option maxRecDepth 100000 in
theorem law_loop {p : Program} {e : Env} {s : State} {m : MethodId} {below : List Frame} {meth : Method} {c : Code} (l : Launch) {b L : Nat} {xs : Nat → Int32} (hL : L ≤ 2048) (C : CallFix p m c code 4 s #[Value.ref b] mc_big RL) (hX : va_X b L xs s s.heap) (hbl : b < s.heap.size) {w1 w2 : mc_w} (K1 : mc_K mc_k 152 w1 s) (K2 : mc_K mr_k 3 w2 s) (hd1 : ∀ i j, i < 152 → j < 3 → w1.2.2.1 i ≠ w2.2.2.1 j) (hA1 : ∀ i, i < 152 → s.heap.size ≤ w1.2.2.1 i) (hA2 : ∀ i, i < 3 → s.heap.size ≤ w2.2.2.1 i) {R2 : Nat → Nat → Option Nat} {F : Nat} {Rl : (Nat → Nat → Int32) → (Nat → Nat → Option Nat) → (Nat → Nat → Int32) → Prop} (ho : mz_ops F Rl) (hr : meth.sig.returnType = ret) (hlk : meth.locks = false) : ∀ (n i : Nat), i ≤ L → L - i < n → ∀ {I : Nat → Nat → Int32} {R : Nat → Nat → Option Nat} {J : Nat → Nat → Int32} {H : Heap} {locs : List Loc} {ls : Array Slot}, Rl I R J → mc_P mc_k 152 w1 I R H → mc_P mr_k 3 w2 J R2 H → va_S (fun q => s.heap.size ≤ q) s.heap H locs → lv_has ls 4 [(0, .ref b), (1, .ref (w1.2.2.1 144)), (2, .ref (w2.2.2.1 0)), (3, .int (nI i))] → W p l e room_1 s m #[Value.ref b] below meth c H locs 155 3064 (lw_Z below #[Value.ref b] s) (F0 m 18 ls []) := by
  intro n
  induction n with
  | zero => intro i _ h; omega
  | succ n ih =>
    intro i hiL hn I R J H locs ls hR hP hP2 hS hl
    have hx := C.1
    have hb := C.2.1
    have hbA : ¬ (fun q : Nat => s.heap.size ≤ q) b := Nat.not_le.mpr hbl
    refine lv_iload_n hx hb dL_law_18 rfl (lv_at hl 3 rfl) ?_
    refine lv_aload_n hx hb dL_law_19 rfl (lv_at hl 0 rfl) ?_
    refine va_slen hx hb hX hbl hbA hS dL_law_20 ?_
    refine lv_iconst (v := 4) hx hb dL_law_21 (by decide) ?_
    refine lv_isub hx hb dL_law_22 ?_
    refine lv_icmp_gt (tgt := 753) hx hb dL_law_23 (by decide) (fun cg => ?_) (fun cg => ?_)
    · refine va_forget (fun q hq => hS.2.2 q hq) ?_
      refine lv_iconst (v := 1) hx hb dL_law_753 (by decide) ?_
      refine W.widen (k := 600000) (n := 7302250) (Nat.le_of_ble_eq_true rfl) (Nat.le_of_ble_eq_true rfl) ?_
      exact lw_ret hx hb hr hlk dL_law_754
    · have hi : i + 4 ≤ L := mz_le4 hL hiL cg
      have hstep : ∀ (I : Nat → Nat → Int32) (R : Nat → Nat → Option Nat) (J : Nat → Nat → Int32) (H : Heap) (locs : List Loc) (ls : Array Slot), Rl I R J → mc_P mc_k 152 w1 I R H → mc_P mr_k 3 w2 J R2 H → va_S (fun q => s.heap.size ≤ q) s.heap H locs → lv_has ls 4 [(0, .ref b), (1, .ref (w1.2.2.1 144)), (2, .ref (w2.2.2.1 0)), (3, .int (nI i))] → W p l e room_1 s m #[Value.ref b] below meth c H locs 155 3064 (lw_Z below #[Value.ref b] s) (F0 m 747 ls []) := by
        intro I R J H locs ls hR hP hP2 hS hl
        refine lv_iinc (v := nI (i + 4)) (lv' := [(3, .int (nI (i + 4))), (0, .ref b), (1, .ref (w1.2.2.1 144)), (2, .ref (w2.2.2.1 0))]) hx hb dL_law_747 hl (k := 3) rfl (by rw [← nI_add]; rfl) (by decide) rfl (fun ls hl => ?_)
        refine lv_goto (tgt := 18) hx hb dL_law_750 (by decide) ?_
        exact ih (i + 4) hi (by omega) hR hP hP2 hS (lv_sub hl [1, 2, 3, 0] rfl)
      refine lv_aload_n hx hb dL_law_26 rfl (lv_at hl 0 rfl) ?_
      refine lv_iload_n hx hb dL_law_27 rfl (lv_at hl 3 rfl) ?_
      refine va_sld hx hb hX hbl hbA hS (vp_in_nI (n := i) (by omega) (by omega)) dL_law_28 ?_
      refine lv_bipush (v := 31) hx hb dL_law_29 (by decide) ?_
      refine lv_iand hx hb dL_law_31 ?_
      refine lv_topi (fun v ev => ?_)
      by_cases c0 : v = 0
      · refine lv_tableIn (off := 116) (tgt := 148) hx hb dL_law_32 (by rw [c0]; decide) (by rw [c0]; decide) (by rw [c0]; decide) (by decide) ?_
        exact lc_pay l hL C hX hbl K1 K2 hd1 hA1 hA2 ho hi hstep hR hP hP2 hS hl
      by_cases c1 : v = 1
      · refine lv_tableIn (off := 139) (tgt := 171) hx hb dL_law_32 (by rw [c1]; decide) (by rw [c1]; decide) (by rw [c1]; decide) (by decide) ?_
        exact lc_setSlope l hL C hX hbl K1 K2 hd1 hA1 hA2 ho hi hstep hR hP hP2 hS hl
      by_cases c2 : v = 2
      · refine lv_tableIn (off := 162) (tgt := 194) hx hb dL_law_32 (by rw [c2]; decide) (by rw [c2]; decide) (by rw [c2]; decide) (by decide) ?_
        exact lc_weight l hL C hX hbl K1 K2 hd1 hA1 hA2 ho hi hstep hR hP hP2 hS hl
      by_cases c3 : v = 3
      · refine lv_tableIn (off := 201) (tgt := 233) hx hb dL_law_32 (by rw [c3]; decide) (by rw [c3]; decide) (by rw [c3]; decide) (by decide) ?_
        exact lc_clamp l hL C hX hbl K1 K2 hd1 hA1 hA2 ho hi hstep hR hP hP2 hS hl
      by_cases c4 : v = 4
      · refine lv_tableIn (off := 240) (tgt := 272) hx hb dL_law_32 (by rw [c4]; decide) (by rw [c4]; decide) (by rw [c4]; decide) (by decide) ?_
        exact lc_takeOff l hL C hX hbl K1 K2 hd1 hA1 hA2 ho hi hstep hR hP hP2 hS hl
      by_cases c5 : v = 5
      · refine lv_tableIn (off := 263) (tgt := 295) hx hb dL_law_32 (by rw [c5]; decide) (by rw [c5]; decide) (by rw [c5]; decide) (by decide) ?_
        exact lc_send l hL C hX hbl K1 K2 hd1 hA1 hA2 ho hi hstep hR hP hP2 hS hl
      by_cases c6 : v = 6
      · refine lv_tableIn (off := 276) (tgt := 308) hx hb dL_law_32 (by rw [c6]; decide) (by rw [c6]; decide) (by rw [c6]; decide) (by decide) ?_
        exact lc_pass l hL C hX hbl K1 K2 hd1 hA1 hA2 ho hi hstep hR hP hP2 hS hl
      by_cases c7 : v = 7
      · refine lv_tableIn (off := 299) (tgt := 331) hx hb dL_law_32 (by rw [c7]; decide) (by rw [c7]; decide) (by rw [c7]; decide) (by decide) ?_
        exact lc_setWater l hL C hX hbl K1 K2 hd1 hA1 hA2 ho hi hstep hR hP hP2 hS hl
      by_cases c8 : v = 8
      · refine lv_tableIn (off := 342) (tgt := 374) hx hb dL_law_32 (by rw [c8]; decide) (by rw [c8]; decide) (by rw [c8]; decide) (by decide) ?_
        exact lc_set l hL C hX hbl K1 K2 hd1 hA1 hA2 ho hi hstep hR hP hP2 hS hl
      by_cases c9 : v = 9
      · refine lv_tableIn (off := 375) (tgt := 407) hx hb dL_law_32 (by rw [c9]; decide) (by rw [c9]; decide) (by rw [c9]; decide) (by decide) ?_
        exact lc_type l hL C hX hbl K1 K2 hd1 hA1 hA2 ho hi hstep hR hP hP2 hS hl
      by_cases c10 : v = 10
      · refine lv_tableIn (off := 400) (tgt := 432) hx hb dL_law_32 (by rw [c10]; decide) (by rw [c10]; decide) (by rw [c10]; decide) (by decide) ?_
        exact lc_clearText l hL C hX hbl K1 K2 hd1 hA1 hA2 ho hi hstep hR hP hP2 hS hl
      by_cases c11 : v = 11
      · refine lv_tableIn (off := 413) (tgt := 445) hx hb dL_law_32 (by rw [c11]; decide) (by rw [c11]; decide) (by rw [c11]; decide) (by decide) ?_
        exact lc_perform l hL C hX hbl K1 K2 hd1 hA1 hA2 ho hi hstep hR hP hP2 hS hl
      by_cases c12 : v = 12
      · refine lv_tableIn (off := 426) (tgt := 458) hx hb dL_law_32 (by rw [c12]; decide) (by rw [c12]; decide) (by rw [c12]; decide) (by decide) ?_
        exact lc_stopped l hL C hX hbl K1 K2 hd1 hA1 hA2 ho hi hstep hR hP hP2 hS hl
      by_cases c13 : v = 13
      · refine lv_tableIn (off := 449) (tgt := 481) hx hb dL_law_32 (by rw [c13]; decide) (by rw [c13]; decide) (by rw [c13]; decide) (by decide) ?_
        exact lc_undo l hL C hX hbl K1 K2 hd1 hA1 hA2 ho hi hstep hR hP hP2 hS hl
      by_cases c14 : v = 14
      · refine lv_tableIn (off := 462) (tgt := 494) hx hb dL_law_32 (by rw [c14]; decide) (by rw [c14]; decide) (by rw [c14]; decide) (by decide) ?_
        exact lc_keep l hL C hX hbl K1 K2 hd1 hA1 hA2 ho hi hstep hR hP hP2 hS hl
      by_cases c15 : v = 15
      · refine lv_tableIn (off := 475) (tgt := 507) hx hb dL_law_32 (by rw [c15]; decide) (by rw [c15]; decide) (by rw [c15]; decide) (by decide) ?_
        exact lc_restore l hL C hX hbl K1 K2 hd1 hA1 hA2 ho hi hstep hR hP hP2 hS hl
      by_cases c16 : v = 16
      · refine lv_tableIn (off := 488) (tgt := 520) hx hb dL_law_32 (by rw [c16]; decide) (by rw [c16]; decide) (by rw [c16]; decide) (by decide) ?_
        exact lc_bottle l hL C hX hbl K1 K2 hd1 hA1 hA2 ho hi hstep hR hP hP2 hS hl
      by_cases c17 : v = 17
      · refine lv_tableIn (off := 521) (tgt := 553) hx hb dL_law_32 (by rw [c17]; decide) (by rw [c17]; decide) (by rw [c17]; decide) (by decide) ?_
        exact lc_messenger l hL C hX hbl K1 K2 hd1 hA1 hA2 ho hi hstep hR hP hP2 hS hl
      by_cases c18 : v = 18
      · refine lv_tableIn (off := 554) (tgt := 586) hx hb dL_law_32 (by rw [c18]; decide) (by rw [c18]; decide) (by rw [c18]; decide) (by decide) ?_
        exact lc_layer l hL C hX hbl K1 K2 hd1 hA1 hA2 ho hi hstep hR hP hP2 hS hl
      by_cases c19 : v = 19
      · refine lv_tableIn (off := 587) (tgt := 619) hx hb dL_law_32 (by rw [c19]; decide) (by rw [c19]; decide) (by rw [c19]; decide) (by decide) ?_
        exact lc_depth l hL C hX hbl K1 K2 hd1 hA1 hA2 ho hi hstep hR hP hP2 hS hl
      by_cases c20 : v = 20
      · refine lv_tableIn (off := 620) (tgt := 652) hx hb dL_law_32 (by rw [c20]; decide) (by rw [c20]; decide) (by rw [c20]; decide) (by decide) ?_
        exact lc_reason l hL C hX hbl K1 K2 hd1 hA1 hA2 ho hi hstep hR hP hP2 hS hl
      by_cases c21 : v = 21
      · refine lv_tableIn (off := 643) (tgt := 675) hx hb dL_law_32 (by rw [c21]; decide) (by rw [c21]; decide) (by rw [c21]; decide) (by decide) ?_
        exact lc_shutIn l hL C hX hbl K1 K2 hd1 hA1 hA2 ho hi hstep hR hP hP2 hS hl
      by_cases c22 : v = 22
      · refine lv_tableIn (off := 666) (tgt := 698) hx hb dL_law_32 (by rw [c22]; decide) (by rw [c22]; decide) (by rw [c22]; decide) (by decide) ?_
        exact lc_quietIn l hL C hX hbl K1 K2 hd1 hA1 hA2 ho hi hstep hR hP hP2 hS hl
      by_cases c23 : v = 23
      · refine lv_tableIn (off := 679) (tgt := 711) hx hb dL_law_32 (by rw [c23]; decide) (by rw [c23]; decide) (by rw [c23]; decide) (by decide) ?_
        exact lc_worst l hL C hX hbl K1 K2 hd1 hA1 hA2 ho hi hstep hR hP hP2 hS hl
      by_cases c24 : v = 24
      · refine lv_tableIn (off := 692) (tgt := 724) hx hb dL_law_32 (by rw [c24]; decide) (by rw [c24]; decide) (by rw [c24]; decide) (by decide) ?_
        exact lc_count l hL C hX hbl K1 K2 hd1 hA1 hA2 ho hi hstep hR hP hP2 hS hl
      refine lv_tableOut (tgt := 747) hx hb dL_law_32 (mc_sw (lo := 0) (hi := 24) (fun z h1 h2 => by rcases (show z = 0 ∨ z = 1 ∨ z = 2 ∨ z = 3 ∨ z = 4 ∨ z = 5 ∨ z = 6 ∨ z = 7 ∨ z = 8 ∨ z = 9 ∨ z = 10 ∨ z = 11 ∨ z = 12 ∨ z = 13 ∨ z = 14 ∨ z = 15 ∨ z = 16 ∨ z = 17 ∨ z = 18 ∨ z = 19 ∨ z = 20 ∨ z = 21 ∨ z = 22 ∨ z = 23 ∨ z = 24 by omega) with rfl | rfl | rfl | rfl | rfl | rfl | rfl | rfl | rfl | rfl | rfl | rfl | rfl | rfl | rfl | rfl | rfl | rfl | rfl | rfl | rfl | rfl | rfl | rfl | rfl <;> first | exact ⟨0, by decide, c0⟩ | exact ⟨1, by decide, c1⟩ | exact ⟨2, by decide, c2⟩ | exact ⟨3, by decide, c3⟩ | exact ⟨4, by decide, c4⟩ | exact ⟨5, by decide, c5⟩ | exact ⟨6, by decide, c6⟩ | exact ⟨7, by decide, c7⟩ | exact ⟨8, by decide, c8⟩ | exact ⟨9, by decide, c9⟩ | exact ⟨10, by decide, c10⟩ | exact ⟨11, by decide, c11⟩ | exact ⟨12, by decide, c12⟩ | exact ⟨13, by decide, c13⟩ | exact ⟨14, by decide, c14⟩ | exact ⟨15, by decide, c15⟩ | exact ⟨16, by decide, c16⟩ | exact ⟨17, by decide, c17⟩ | exact ⟨18, by decide, c18⟩ | exact ⟨19, by decide, c19⟩ | exact ⟨20, by decide, c20⟩ | exact ⟨21, by decide, c21⟩ | exact ⟨22, by decide, c22⟩ | exact ⟨23, by decide, c23⟩ | exact ⟨24, by decide, c24⟩)) (by decide) ?_
      exact hstep _ _ _ _ _ _ hR hP hP2 hS hl

/-! THE CONSTRUCTORS' WORLD: the cells from the address n on, one behind the other, hold what es says; nothing lies behind them -/
def mx_P (w : mc_w) (n : Nat) (es : List va_E) (H : Heap) : Prop := H.size = n + es.length ∧ ∀ (k : Nat) (e : va_E), es[k]? = some e → va_at w.1 vwCl (n + k, e) H
def mx_K (w : mc_w) (s : State) : Prop := va_K w.1 vwCl (mc_tys w) s ∧ mc_N s ∧ va_AO RX0 s ∧ va_AO RX5 s
def mx_B (w : mc_w) (n : Nat) (es : List va_E) (U : State) : Prop := mx_P w n es U.heap ∧ mx_K w U
theorem mx_K.mv {w : mc_w} {s t : State} (h : mx_K w s) (hW : s.WarmedH t.vm) : mx_K w t := ⟨h.1.moved hW.alike, h.2.1.warm hW, h.2.2.1.moved hW.alike, h.2.2.2.moved hW.alike⟩
theorem mx_B.blind {w : mc_w} {n : Nat} {es : List va_E} {U : State} {g : JFrame} {mk : MethodId} {a : Array Value} (h : mx_B w n es U) : mx_B w n es (U.calling g mk a) :=
  ⟨h.1, va_K.moved (u := U) (U := U.calling g mk a) (Vm.Alike.refl U.vm) h.2.1, h.2.2.1.same (t := U.calling g mk a) rfl, va_AO.moved (u := U) (U := U.calling g mk a) (Vm.Alike.refl U.vm) h.2.2.2.1, va_AO.moved (u := U) (U := U.calling g mk a) (Vm.Alike.refl U.vm) h.2.2.2.2⟩
theorem mx_P.set {w : mc_w} {n k : Nat} {es : List va_E} {H H1 : Heap} {e : va_E} (h : mx_P w n es H) (z : H1.size = H.size) (oq : ∀ q, q ≠ n + k → H1[q]? = H[q]?) (he : va_at w.1 vwCl (n + k, e) H1) : mx_P w n (es.set k e) H1 := by
  refine ⟨by rw [z, h.1, List.length_set], fun j x hx => ?_⟩
  by_cases hj : k = j
  · subst hj
    rw [List.getElem?_set_self'] at hx
    cases hk : es[k]? with
    | none => rw [hk] at hx; cases hx
    | some y => rw [hk] at hx; cases hx; exact he
  · rw [List.getElem?_set_ne hj] at hx
    exact (h.2 j x hx).kept (oq (n + j) (by omega))
theorem mx_P.push {w : mc_w} {n : Nat} {es : List va_E} {H H1 : Heap} {e : va_E} (h : mx_P w n es H) (z : H1.size = H.size + 1) (oq : ∀ q, q < H.size → H1[q]? = H[q]?) (he : va_at w.1 vwCl (H.size, e) H1) : mx_P w n (es ++ [e]) H1 := by
  refine ⟨by rw [z, h.1, List.length_append]; rfl, fun j x hx => ?_⟩
  by_cases hj : j < es.length
  · rw [List.getElem?_append_left hj] at hx
    exact (h.2 j x hx).kept (oq (n + j) (by rw [h.1]; omega))
  · rw [List.getElem?_append_right (by omega)] at hx
    have hl := (List.getElem?_eq_some_iff.mp hx).1
    have hl : j - es.length < 1 := hl
    have h0 : j = es.length := by omega
    subst h0
    rw [Nat.sub_self] at hx
    cases hx
    rw [← h.1]
    exact he
theorem mx_P.one {w : mc_w} {n k : Nat} {es : List va_E} {H : Heap} {e : va_E} (h : mx_P w n es H) (hk : es[k]? = some e) : va_P w.1 vwCl [(n + k, e)] H := by
  intro j q hq
  have hj : j < 1 := (List.getElem?_eq_some_iff.mp hq).1
  have h0 : j = 0 := by omega
  subst h0
  cases hq
  exact h.2 k e hk
theorem mx_P.last {w : mc_w} {n : Nat} {es : List va_E} {H : Heap} {e : va_E} (h : mx_P w n (es ++ [e]) H) : mx_P w (n + es.length) [e] H := by
  refine ⟨by rw [h.1, List.length_append]; exact (Nat.add_assoc _ _ _).symm, fun j x hx => ?_⟩
  have hj : j < 1 := (List.getElem?_eq_some_iff.mp hx).1
  have h0 : j = 0 := by omega
  subst h0
  cases hx
  have := h.2 es.length e (by simp)
  exact this
theorem mx_P.app {w : mc_w} {n : Nat} {es es1 : List va_E} {H H1 : Heap} {e : va_E} (h : mx_P w n (es ++ [e]) H) (h1 : mx_P w (n + es.length) es1 H1) (oq : ∀ q, q < n + es.length → H1[q]? = H[q]?) : mx_P w n (es ++ es1) H1 := by
  refine ⟨by rw [h1.1, List.length_append]; omega, fun j x hx => ?_⟩
  by_cases hj : j < es.length
  · rw [List.getElem?_append_left hj] at hx
    have := h.2 j x (by rw [List.getElem?_append_left hj]; exact hx)
    exact this.kept (oq (n + j) (by omega))
  · rw [List.getElem?_append_right (by omega)] at hx
    have := h1.2 _ x hx
    rw [show n + es.length + (j - es.length) = n + j by omega] at this
    exact this
section MXR
variable {p : Program} {l : Launch} {e : Env} {Rm : Room} {s : State} {m : MethodId} {args : Array Value} {below : List Frame} {meth : Method} {c : Code} {H : Heap} {locs : List Loc} {cells slots : Nat} {Q : State → Prop} {cc : ByteArray} {pc nL n : Nat} {ls : Array Slot} {rest : List Value} {w : mc_w} {es : List va_E} {own : String}
theorem mx_get (C : CallFix p m c cc nL s args mc_big own) (K : mx_K w s) (hP : mx_P w n es H) {k ci N0 idx j : Nat} {Cn ref : String} {T : u_T} {fs : List Value} {v : Value} (hk : es[k]? = some (.inr (ci, fs))) (hin : ∀ w ∈ u_ws Cn T N0, w ∈ mc_big) (hc : vwCl[ci]? = some (Cn, T, N0)) (hj : j < N0) (hl : Cond.fieldLink own idx ref (T j).2.1 (T j).2.2.1 ∈ mc_big) (hr : (T j).1 = ref) (hv : fs[j]? = some v) (hdg : decode cc pc = .ok (.getfield idx, 3))
    (kk : W p l e Rm s m args below meth c H locs cells slots Q (F0 m (pc + 3) ls (v :: rest))) : W p l e Rm s m args below meth c H locs cells slots Q (F0 m pc ls (.ref (n + k) :: rest)) :=
  va_get (D := w.1) C.1 C.2.1 C.2.2.2.2 hin C.2.2.2.1 K.1 (hP.one hk) 0 rfl hc j hj (C.2.2.2.2 _ hl) (fun _ h => by rw [← hr]; exact h) hv hdg kk
theorem mx_putA (C : CallFix p m c cc nL s args mc_big own) (K : mx_K w s) (hP : mx_P w n es H) (hS : va_S (fun q => n ≤ q) s.heap H locs) {k ci N0 idx j : Nat} {Cn ref : String} {T : u_T} {ty0 : Nat → FieldType} {fs : List Value} {v : Value} {ty : FieldType} (hk : es[k]? = some (.inr (ci, fs))) (hin : ∀ w ∈ u_ws Cn T N0, w ∈ mc_big) (hty : ∀ k, k < N0 → parseFieldDescriptor (T k).2.2.1 = some (ty0 k)) (hnm : ∀ a, a < N0 → ∀ b, b < N0 → a ≠ b → (T a).2.1 ≠ (T b).2.1) (hc : vwCl[ci]? = some (Cn, T, N0)) (hj : j < N0) (hl : Cond.fieldLink own idx ref (T j).2.1 (T j).2.2.1 ∈ mc_big) (hr : (T j).1 = ref) (hfin : (T j).2.2.2 = false) (hd : parseFieldDescriptor (T j).2.2.1 = some ty) (hn : narrow ty v = v) (hfit : fits ty v = true) (hlen : j < fs.length) (hdg : decode cc pc = .ok (.putfield idx, 3))
    (kk : ∀ (H1 : Heap) (locs1 : List Loc), mx_P w n (es.set k (.inr (ci, fs.set j v))) H1 → va_S (fun q => n ≤ q) s.heap H1 locs1 → W p l e Rm s m args below meth c H1 locs1 cells slots Q (F0 m (pc + 3) ls rest)) : W p l e Rm s m args below meth c H locs cells slots Q (F0 m pc ls (v :: .ref (n + k) :: rest)) := by
  have hap := va_apart (own := own) C.2.2.2.2 hin ty0 hty hnm K.1 hc
  obtain ⟨r, h1, cell, q1, q2, q3, q4⟩ := hP.2 k _ hk
  have hr' : r = (Cn, T, N0) := Option.some.inj (h1.symm.trans hc)
  subst hr'
  obtain ⟨hS', hfc, kC, hkC, hkind⟩ := K.1.1 ci _ hc
  obtain ⟨cf, kf, fi, f, hi, hsl⟩ := hS' j hj
  have hlay := C.2.2.2.2 _ (hin _ (u_in_lay hj))
  unfold u_lay at hlay
  rw [if_neg (by rw [hfin]; decide)] at hlay
  have hst := (u_facts hfc hkC (u_lays C.2.2.2.2 hin hj) hi).1
  have h6 := u_store hfc hkC hkind hlay hi hd hn hfit
  refine W.putK C.1 C.2.1 (f := f) ⟨C.2.2.2.1, C.2.2.2.2 _ hl, ⟨_, _, _, by rw [← hr]; exact hi⟩, hst⟩ (by rw [q2]; exact h6) q1 q3 (by rw [hsl]; exact k2_hasslot (q4 j hj)) rfl rfl hdg fun H' e1 e2 e3 => ?_
  rw [hsl] at e1 ⊢
  exact kk H' _ (hP.set e2 e3 ⟨_, hc, t_OB.to (V := updV (vp_V fs) j v) ⟨_, e1, q2, q3, t_set q4 hap hj v⟩ (fun i _ => vp_updV_set hlen v i)⟩) (hS.put e2 e3 (Nat.le_add_right n k))
theorem mx_putF (C : CallFix p m c cc nL s args mc_big own) (K : mx_K w s) (hP : mx_P w n es H) (hS : va_S (fun q => n ≤ q) s.heap H locs) (hin2 : meth.name = "<init>") {k ci N0 idx j : Nat} {Cn ref : String} {T : u_T} {ty0 : Nat → FieldType} {fs : List Value} {v : Value} {ty : FieldType} (hk : es[k]? = some (.inr (ci, fs))) (hin : ∀ w ∈ u_ws Cn T N0, w ∈ mc_big) (hty : ∀ k, k < N0 → parseFieldDescriptor (T k).2.2.1 = some (ty0 k)) (hnm : ∀ a, a < N0 → ∀ b, b < N0 → a ≠ b → (T a).2.1 ≠ (T b).2.1) (hc : vwCl[ci]? = some (Cn, T, N0)) (hj : j < N0) (hl : Cond.fieldLink own idx ref (T j).2.1 (T j).2.2.1 ∈ mc_big) (hr : (T j).1 = ref) (hfin : (T j).2.2.2 = true) (hdecl : (T j).1 = own) (hd : parseFieldDescriptor (T j).2.2.1 = some ty) (hn : narrow ty v = v) (hfit : fits ty v = true) (hlen : j < fs.length) (hdg : decode cc pc = .ok (.putfield idx, 3))
    (kk : ∀ (H1 : Heap) (locs1 : List Loc), mx_P w n (es.set k (.inr (ci, fs.set j v))) H1 → va_S (fun q => n ≤ q) s.heap H1 locs1 → W p l e Rm s m args below meth c H1 locs1 cells slots Q (F0 m (pc + 3) ls rest)) : W p l e Rm s m args below meth c H locs cells slots Q (F0 m pc ls (v :: .ref (n + k) :: rest)) := by
  have hap := va_apart (own := own) C.2.2.2.2 hin ty0 hty hnm K.1 hc
  obtain ⟨r, h1, cell, q1, q2, q3, q4⟩ := hP.2 k _ hk
  have hr' : r = (Cn, T, N0) := Option.some.inj (h1.symm.trans hc)
  subst hr'
  obtain ⟨hS', hfc, kC, hkC, hkind⟩ := K.1.1 ci _ hc
  obtain ⟨cf, kf, fi, f, hi, hsl⟩ := hS' j hj
  have hlay := C.2.2.2.2 _ (hin _ (u_in_lay hj))
  unfold u_lay at hlay
  rw [if_pos hfin] at hlay
  have hst := (u_facts hfc hkC (u_lays C.2.2.2.2 hin hj) hi).1
  have hcf : m.cls = cf := by
    obtain ⟨_, _, c', _, _, _, -, -, hf', -, -, -, hown2, -⟩ := Cond.laysFinal_spec hlay
    have e1 : c' = cf := by have := hi.symm.trans hf'; simp at this; exact this.1.symm
    rw [hdecl] at hown2
    rw [← e1]; exact Option.some.inj (C.2.2.2.1.symm.trans hown2)
  have h6 := u_fits hfc hkC hkind (Or.inr hlay) hi hd hn hfit
  refine W.putFinK C.1 C.2.1 C.2.2.2.1 (C.2.2.2.2 _ hl) (by rw [← hr]; exact hi) hst hcf hin2 (by rw [q2]; exact h6) q1 q3 (by rw [hsl]; exact k2_hasslot (q4 j hj)) rfl rfl hdg fun H' e1 e2 e3 => ?_
  rw [hsl] at e1 ⊢
  exact kk H' _ (hP.set e2 e3 ⟨_, hc, t_OB.to (V := updV (vp_V fs) j v) ⟨_, e1, q2, q3, t_set q4 hap hj v⟩ (fun i _ => vp_updV_set hlen v i)⟩) (hS.put e2 e3 (Nat.le_add_right n k))
theorem mx_new (C : CallFix p m c cc nL s args mc_big own) (K : mx_K w s) (hP : mx_P w n es H) (hS : va_S (fun q => n ≤ q) s.heap H locs) {ci N0 idx : Nat} {Cn : String} {T : u_T} {ty : Nat → FieldType} {fs : List Value} (hin : ∀ w ∈ u_ws Cn T N0, w ∈ mc_big) (hty : ∀ k, k < N0 → parseFieldDescriptor (T k).2.2.1 = some (ty k)) (hc : vwCl[ci]? = some (Cn, T, N0)) (hcl : Cond.classLink own idx Cn ∈ mc_big) (hinst : Cond.instantiable Cn N0 ∈ mc_big) (hini : Cond.initialized Cn ∈ mc_big) (hfs : ∀ j, j < N0 → defaultValue (ty j) = vp_V fs j) (hcells : cells + 1 ≤ Rm.cells) (hslots : slots + N0 ≤ Rm.slots) (hdg : decode cc pc = .ok (.new idx, 3))
    (kk : ∀ (H1 : Heap), mx_P w n (es ++ [.inr (ci, fs)]) H1 → va_S (fun q => n ≤ q) s.heap H1 locs → W p l e Rm s m args below meth c H1 locs (cells + 1) (slots + N0) Q (F0 m (pc + 3) ls (.ref (n + es.length) :: rest))) : W p l e Rm s m args below meth c H locs cells slots Q (F0 m pc ls rest) := by
  have hKn := K.1.1 ci _ hc
  refine W.newcK C.1 C.2.1 C.2.2.2.1 (C.2.2.2.2 _ hcl) (C.2.2.2.2 _ hinst) (C.2.2.2.2 _ hini) rfl hdg hcells hslots hKn.2.1 rfl fun H1 kC hkC e1 z1 o1 => ?_
  have h3 : va_at w.1 vwCl (H.size, .inr (ci, fs)) H1 := ⟨_, hc, (u_born ty C.2.2.2.2 hin hKn hkC e1 hty).to hfs⟩
  have h4 := kk H1 (hP.push z1 o1 h3) ⟨Nat.le_trans hS.1 (by omega), fun x h1 h2 => (o1 x (Nat.lt_of_lt_of_le h1 hS.1)).trans (hS.2.1 x h1 h2), hS.2.2⟩
  rw [← hP.1] at h4
  exact h4
theorem mx_newa (C : CallFix p m c cc nL s args mc_big own) (K : mx_K w s) (hP : mx_P w n es H) (hS : va_S (fun q => n ≤ q) s.heap H locs) {atype : ArrayType} {t0 : Nat} {ty : FieldType} {cA : ClassId} {z : Int32} {Z : Nat} (hty : newarray.typeOf atype = ty) (hcA : (mc_tys w)[t0]? = some (cA, ty)) (hnc : ty = .int ∨ ty = .char) (harr : Cond.arrayClass ty ∈ mc_big) (hn : ¬ z < 0) (hN : z.toNatClampNeg = Z) (hbytes : Z * componentBytes ty ≤ 536870912) (hcells : cells + 1 ≤ Rm.cells) (hslots : slots + Z ≤ Rm.slots) (hdg : decode cc pc = .ok (.newarray atype, 2))
    (kk : ∀ (H1 : Heap), mx_P w n (es ++ [.inl (cA, Z, .inl (fun _ => 0))]) H1 → va_S (fun q => n ≤ q) s.heap H1 locs → W p l e Rm s m args below meth c H1 locs (cells + 1) (slots + Z) Q (F0 m (pc + 2) ls (.ref (n + es.length) :: rest))) : W p l e Rm s m args below meth c H locs cells slots Q (F0 m pc ls (.int z :: rest)) := by
  subst hty
  refine va_newaK C.1 C.2.1 (C.2.2.2.2 _ harr) rfl hdg rfl hn hN hbytes hcells hslots rfl fun H1 cB e1 z1 o1 hAr hNm => ?_
  have hcc : cB = cA := by
    have h1 := (K.1.2 t0 _ hcA).2
    rcases hnc with h | h
    · rw [h] at h1 hNm
      exact Option.some.inj (hNm.symm.trans h1)
    · rw [h] at h1 hNm
      exact Option.some.inj (hNm.symm.trans h1)
  subst hcc
  have h3 : va_at w.1 vwCl (H.size, .inl (cB, Z, .inl (fun _ => 0))) H1 := by
    show H1[H.size]? = some (vp_cell _ _)
    rw [vp_cell_i, e1]
    rcases hnc with h | h <;> rw [h] <;> rfl
  have h4 := kk H1 (hP.push z1 o1 h3) ⟨Nat.le_trans hS.1 (by omega), fun x h1 h2 => (o1 x (Nat.lt_of_lt_of_le h1 hS.1)).trans (hS.2.1 x h1 h2), hS.2.2⟩
  rw [← hP.1] at h4
  exact h4
theorem mx_newq (C : CallFix p m c cc nL s args mc_big own) (K : mx_K w s) (hP : mx_P w n es H) (hS : va_S (fun q => n ≤ q) s.heap H locs) {t0 idx : Nat} {Cn : String} {cA : ClassId} {z : Int32} {Z : Nat} (hover : va_AO Cn s) (hcA : (mc_tys w)[t0]? = some (cA, .object Cn)) (hcl : Cond.classLink own idx Cn ∈ mc_big) (hn : ¬ z < 0) (hN : z.toNatClampNeg = Z) (hbytes : Z * 4 ≤ 536870912) (hcells : cells + 1 ≤ Rm.cells) (hslots : slots + Z ≤ Rm.slots) (hdg : decode cc pc = .ok (.anewarray idx, 3))
    (kk : ∀ (H1 : Heap), mx_P w n (es ++ [.inl (cA, Z, .inr (.inr (.inr (.inr (fun _ => none)))))]) H1 → va_S (fun q => n ≤ q) s.heap H1 locs → W p l e Rm s m args below meth c H1 locs (cells + 1) (slots + Z) Q (F0 m (pc + 3) ls (.ref (n + es.length) :: rest))) : W p l e Rm s m args below meth c H locs cells slots Q (F0 m pc ls (.int z :: rest)) := by
  subst hN
  refine W.anew C.1 C.2.1 C.2.2.2.1 (C.2.2.2.2 _ hcl) (va_AO.use hover) rfl hdg rfl hn hbytes hcells hslots fun cB kA comp f1 f2 f3 f4 => ?_
  have hcc : cB = cA := by
    obtain ⟨-, kA', comp', -, -, -, h1⟩ := K.1.2 t0 _ hcA
    exact Option.some.inj (f1.symm.trans h1)
  subst hcc
  generalize hH1 : H.push ({ cls := cB, slots := Array.replicate z.toNatClampNeg .null, vm := .none } : Cell) = H1
  have z1 : H1.size = H.size + 1 := by rw [← hH1, Array.size_push]
  have e1 : H1[H.size]? = some (arrV cB z.toNatClampNeg (fun _ => .null)) := by rw [← hH1, Array.getElem?_push_size, ← arrV_new]
  have o1 : ∀ q : Nat, q < H.size → H1[q]? = H[q]? := fun q hq => by rw [← hH1, Array.getElem?_push, if_neg (Nat.ne_of_lt hq)]
  have h3 : va_at w.1 vwCl (H.size, .inl (cB, z.toNatClampNeg, .inr (.inr (.inr (.inr (fun _ => none)))))) H1 := by
    show H1[H.size]? = some (vp_cell _ _)
    rw [vp_cell_q, e1]
    rfl
  have h4 := kk H1 (hP.push z1 o1 h3) ⟨Nat.le_trans hS.1 (by omega), fun x h1 h2 => (o1 x (Nat.lt_of_lt_of_le h1 hS.1)).trans (hS.2.1 x h1 h2), hS.2.2⟩
  rw [← hP.1] at h4
  exact h4
theorem mx_ias (C : CallFix p m c cc nL s args mc_big own) (K : mx_K w s) (hP : mx_P w n es H) (hS : va_S (fun q => n ≤ q) s.heap H locs) {k Z : Nat} {f f1 : Nat → Int32} {j x : Int32} (hk : es[k]? = some (.inl (w.2.1 1, Z, .inl f))) (hin : ¬ (j < 0 ∨ Z ≤ j.toNatClampNeg)) (hf : f1 = va_up f j.toNatClampNeg x) (hdg : decode cc pc = .ok (.iastore, 1))
    (kk : ∀ (H1 : Heap) (locs1 : List Loc), mx_P w n (es.set k (.inl (w.2.1 1, Z, .inl f1))) H1 → va_S (fun q => n ≤ q) s.heap H1 locs1 → W p l e Rm s m args below meth c H1 locs1 cells slots Q (F0 m (pc + 1) ls rest)) : W p l e Rm s m args below meth c H locs cells slots Q (F0 m pc ls (.int x :: .int j :: .ref (n + k) :: rest)) := by
  subst hf
  refine W.iast C.1 C.2.1 (hP.2 k _ hk) ((K.1.2 1 _ rfl).1 Z (fun j => .int (f j))) (fun q => by cases q) (by show ¬ (j < 0 ∨ (arrV _ _ _).slots.size ≤ _); rw [arrV_size]; exact hin) rfl rfl hdg fun H1 e z oq => ?_
  refine kk H1 _ (hP.set z oq ?_) (hS.put z oq (Nat.le_add_right n k))
  show H1[n + k]? = some (vp_cell _ _)
  rw [e]
  rw [vp_cell_i, vp_cell_i, arrV_store]
  congr 2
  funext q
  by_cases hq : q = j.toNatClampNeg
  · subst hq
    simp [updV, va_up]
  · simp [updV, va_up, hq]
theorem mx_aas (C : CallFix p m c cc nL s args mc_big own) (K : mx_K w s) (hP : mx_P w n es H) (hS : va_S (fun q => n ≤ q) s.heap H locs) {k k2 t0 ci Z : Nat} {cA : ClassId} {r : vw_C} {fs : List Value} {f f1 : Nat → Option Nat} {j : Int32} (hk : es[k]? = some (.inl (cA, Z, .inr (.inr (.inr (.inr f)))))) (ht : (mc_tys w)[t0]? = some (cA, .object r.1)) (hk2 : es[k2]? = some (.inr (ci, fs))) (hc : vwCl[ci]? = some r) (hin : ¬ (j < 0 ∨ Z ≤ j.toNatClampNeg)) (hf : f1 = va_up f j.toNatClampNeg (some (n + k2))) (hne : k ≠ k2) (hdg : decode cc pc = .ok (.aastore, 1))
    (kk : ∀ (H1 : Heap) (locs1 : List Loc), mx_P w n (es.set k (.inl (cA, Z, .inr (.inr (.inr (.inr f1)))))) H1 → va_S (fun q => n ≤ q) s.heap H1 locs1 → W p l e Rm s m args below meth c H1 locs1 cells slots Q (F0 m (pc + 1) ls rest)) : W p l e Rm s m args below meth c H locs cells slots Q (F0 m pc ls (.ref (n + k2) :: .int j :: .ref (n + k) :: rest)) := by
  subst hf
  have hlt : j.toNatClampNeg < Z := Nat.not_le.mp fun q => hin (Or.inr q)
  have h0 : ¬ j < 0 := fun q => hin (Or.inl q)
  obtain ⟨r', hr', cellV, g1, g2, g3, -⟩ := hP.2 k2 _ hk2
  have hcls := (K.1.1 ci r hc).2
  obtain ⟨kA, comp, k1, k2', k3, -⟩ := (K.1.2 t0 _ ht).2
  have hcomp : comp = w.1.1 ci := Option.some.inj (k3.symm.trans hcls.1)
  subst hcomp
  obtain ⟨kC, hkC, -⟩ := hcls.2
  refine W.aast C.1 C.2.1 (hP.2 k _ hk) (fun q h => by cases h) (fun h => by cases h) k1 k2' rfl hkC ⟨h0, by show _ < (arrV _ _ _).slots.size; rw [arrV_size]; exact hlt⟩ g1 (fun q h => by rw [g3] at h; cases h) (by rw [g2]; exact hkC) (by rw [g2]; exact va_assign hcls) rfl rfl hdg fun H1 e z oq => ?_
  refine kk H1 _ (hP.set z oq ?_) (hS.put z oq (Nat.le_add_right n k))
  show H1[n + k]? = some (vp_cell _ _)
  rw [e]
  rw [vp_cell_q, vp_cell_q, arrV_store]
  congr 2
  funext q
  by_cases hq : q = j.toNatClampNeg
  · subst hq
    simp [updV, va_up, va_rf]
  · simp [updV, va_up, hq]
theorem mx_call {rv : Option Value} {B : State → Prop} {A A1 : Nat → Prop} {H0 : Heap} {a : Array Value} {st0 : List Value} {mc ms : Nat} (hr : va_Run p l e Rm s m args below meth c H locs cells slots mc ms (F0 m pc ls st0) rest (mc_Q rv B A1 a) A1) (hS : va_S A H0 H locs) (hA : ∀ q, A1 q → A q)
    (kk : ∀ (t : State) (locs1 : List Loc), B t → (∀ q : Nat, q < H.size → ¬ A1 q → t.heap[q]? = H[q]?) → va_S A H0 t.heap locs1 → W p l e Rm s m args below meth c t.heap locs1 (cells + mc) (slots + ms) Q (F0 m (pc + 3) ls (rv.toList ++ rest))) : W p l e Rm s m args below meth c H locs cells slots Q (F0 m pc ls st0) := by
  intro T hT X
  obtain ⟨v, st₀, t, T', L, h0, X', hL, e1, e2, ⟨hv, hb, hz, hk⟩, st⟩ := hr T hT X
  cases hv
  rw [h0] at hz hk
  obtain ⟨t2, a1, b1⟩ := kk t (locs ++ L) hb hk
    ⟨Nat.le_trans hS.1 hz, fun q h1 h2 => by rw [hk q (Nat.lt_of_lt_of_le h1 hS.1) (fun z => h2 (hA q z))]; exact hS.2.1 q h1 h2, fun q hq => by
      rcases List.mem_append.mp hq with h | h
      · exact hS.2.2 q h
      · exact hA _ (hL q h)⟩ T' e1 X'
  exact ⟨t2, st t2 a1, b1⟩
theorem mx_I {idx maxL mc ms : Nat} {y : MethodName} {bc : ByteArray} {rm : Room} {st : List Value} {e0 : va_E} {es1 : List va_E}
    (hM : Met l y (Cond.code y bc maxL none :: mc_big) rm (va_Pc [.ref (n + es.length)] (mx_B w (n + es.length) [e0])) (mc_Q none (mx_B w (n + es.length) es1) (fun q => n + es.length ≤ q)) mc ms (fun q => n + es.length ≤ q))
    (C : CallFix p m c cc nL s args mc_big own) (K : mx_K w s) (hP : mx_P w n (es ++ [e0]) H) (hS : va_S (fun q => n ≤ q) s.heap H locs) (hsize : ls.size = nL)
    (h0 : Cond.methodLink own idx y ∈ mc_big) (h1 : Cond.instanceMethod y ∈ mc_big ∧ Cond.initialized y.cls ∈ mc_big ∧ Cond.code y bc maxL none ∈ mc_big)
    (hd : y.name = "<init>" ∧ y.cls ≠ "java/lang/invoke/MethodHandle" ∧ y.cls ≠ "java/lang/invoke/VarHandle" ∧ (parseMethodDescriptor y.desc).map (fun d => d.parameters.length) = some 0)
    (hst : st = .ref (n + es.length) :: rest) (hrc : rm.cells = mc) (hrs : rm.slots = ms) (hR : rm.frames + 1 ≤ Rm.frames ∧ 8 + (maxL + 11) + rm.locals ≤ Rm.locals) (hcat : (rest.map fun v => v.category).sum ≤ 8) (hf : cells + mc ≤ Rm.cells ∧ slots + ms ≤ Rm.slots)
    (hdg : decode cc pc = .ok (.invokespecial idx, 3))
    (kk : ∀ (H1 : Heap) (locs1 : List Loc), mx_P w n (es ++ es1) H1 → va_S (fun q => n ≤ q) s.heap H1 locs1 → W p l e Rm s m args below meth c H1 locs1 (cells + mc) (slots + ms) Q (F0 m (pc + 3) ls rest)) : W p l e Rm s m args below meth c H locs cells slots Q (F0 m pc ls st) := by
  have hz : n + es.length ≤ H.size := by rw [hP.1, List.length_append]; exact Nat.add_le_add_left (Nat.le_add_right _ _) _
  exact mx_call (va_runI (As := []) (rest := rest) C hM (cwI 0 C.2.2.2.2 (mg_gN h1.2.2) rfl hrc hrs (C.2.2.2.2 _ h1.2.1) (C.2.2.2.2 _ h0) (C.2.2.2.2 _ h1.1) hd.1 hd.2 hR) ⟨fun a U g mk q => ⟨q.1, mx_B.blind q.2⟩, fun U hU hW => ⟨rfl, by rw [hU]; exact hP.last, K.mv hW⟩⟩ rfl rfl hsize hst (lv_room hcat) hdg hf) hS (fun q h => Nat.le_trans (Nat.le_add_right _ _) h) (fun t locs1 hB hq hS1 => kk t.heap locs1 (hP.app hB.1 (fun q h => hq q (Nat.lt_of_lt_of_le h hz) (Nat.not_le.mpr h))) hS1)
theorem mx_IN {host : String} {idx maxL mc ms : Nat} {y : MethodName} {bc : ByteArray} {rm : Room} {st : List Value} {e0 : va_E} {es1 : List va_E}
    (hM : Met l y (Cond.code y bc maxL none :: mc_big) rm (va_Pc [.ref (n + es.length)] (mx_B w (n + es.length) [e0])) (mc_Q none (mx_B w (n + es.length) es1) (fun q => n + es.length ≤ q)) mc ms (fun q => n + es.length ≤ q))
    (C : CallFix p m c cc nL s args mc_big own) (K : mx_K w s) (hP : mx_P w n (es ++ [e0]) H) (hS : va_S (fun q => n ≤ q) s.heap H locs) (hsize : ls.size = nL)
    (h0 : va_Nw (.methodLinkNest own idx y host) s) (h1 : Cond.instanceMethod y ∈ mc_big ∧ Cond.initialized y.cls ∈ mc_big ∧ Cond.code y bc maxL none ∈ mc_big)
    (hd : y.name = "<init>" ∧ y.cls ≠ "java/lang/invoke/MethodHandle" ∧ y.cls ≠ "java/lang/invoke/VarHandle" ∧ (parseMethodDescriptor y.desc).map (fun d => d.parameters.length) = some 0)
    (hst : st = .ref (n + es.length) :: rest) (hrc : rm.cells = mc) (hrs : rm.slots = ms) (hR : rm.frames + 1 ≤ Rm.frames ∧ 8 + (maxL + 11) + rm.locals ≤ Rm.locals) (hcat : (rest.map fun v => v.category).sum ≤ 8) (hf : cells + mc ≤ Rm.cells ∧ slots + ms ≤ Rm.slots)
    (hdg : decode cc pc = .ok (.invokespecial idx, 3))
    (kk : ∀ (H1 : Heap) (locs1 : List Loc), mx_P w n (es ++ es1) H1 → va_S (fun q => n ≤ q) s.heap H1 locs1 → W p l e Rm s m args below meth c H1 locs1 (cells + mc) (slots + ms) Q (F0 m (pc + 3) ls rest)) : W p l e Rm s m args below meth c H locs cells slots Q (F0 m pc ls st) := by
  have hz : n + es.length ≤ H.size := by rw [hP.1, List.length_append]; exact Nat.add_le_add_left (Nat.le_add_right _ _) _
  exact mx_call (va_runIN (As := []) (rest := rest) C hM ⟨va_cnB 0 C.2.2.2.2 (mg_gN h1.2.2) rfl hrc hrs h0 (C.2.2.2.2 _ h1.2.1) hd.2 hR, hd.1, C.2.2.2.2 _ h1.1⟩ ⟨fun a U g mk q => ⟨q.1, mx_B.blind q.2⟩, fun U hU hW => ⟨rfl, by rw [hU]; exact hP.last, K.mv hW⟩⟩ rfl rfl hsize hst (lv_room hcat) hdg hf) hS (fun q h => Nat.le_trans (Nat.le_add_right _ _) h) (fun t locs1 hB hq hS1 => kk t.heap locs1 (hP.app hB.1 (fun q h => hq q (Nat.lt_of_lt_of_le h hz) (Nat.not_le.mpr h))) hS1)
theorem mx_obj (C : CallFix p m c cc nL s args mc_big own) {idx : Nat} {a : Nat} (hsize : ls.size = nL) (h0 : Cond.methodLink own idx Lib.objectInit ∈ mc_big) (hfr : 1 ≤ Rm.frames) (hlo : (rest.map fun v => v.category).sum + 12 ≤ Rm.locals) (hdg : decode cc pc = .ok (.invokespecial idx, 3)) (kk : W p l e Rm s m args below meth c H locs cells slots Q (F0 m (pc + 3) ls rest)) : W p l e Rm s m args below meth c H locs cells slots Q (F0 m pc ls (.ref a :: rest)) :=
  W.objInit C.1 C.2.1 C.2.2.2.1 (C.2.2.2.2 _ h0) (C.2.2.2.2 _ wi_obj) (C.2.2.2.2 _ wc_obj) rfl (by rw [C.2.2.1]; exact hsize) rfl hdg hfr (by show 2 * 0 + _ + 12 ≤ _; omega) kk
theorem mx_ret {es1 : List va_E} (hx : p.tables.exec = Jvm.exec) (hb : c.code = cc) (hr : meth.sig.returnType = none) (hlk : meth.locks = false) (K : mx_K w s) (hP : mx_P w n es1 H) (hS : va_S (fun q => n ≤ q) s.heap H locs) (hdg : decode cc pc = .ok (.return_, 1)) : W p l e Rm s m args below meth c H locs cells slots (MQ below (mc_Q none (mx_B w n es1) (fun q => n ≤ q)) args s cells slots (fun q => n ≤ q)) (F0 m pc ls []) :=
  W.vret hx hb hr (fun t ht hW => ⟨rfl, ⟨by rw [ht]; exact hP, K.mv hW⟩, hS.F ht⟩) hS.2.2 hdg hlk
end MXR
def mx_w0 : Nat → Int32 := (va_up (va_up (va_up (va_up (va_up (va_up (va_up (va_up (va_up (va_up (fun _ => 0) 0 200) 1 180) 2 160) 3 140) 4 120) 5 100) 6 80) 7 60) 8 40) 9 20)
def mx_s0 : Nat → Int32 := (va_up (va_up (va_up (va_up (va_up (va_up (va_up (va_up (va_up (va_up (fun _ => 0) 0 340) 1 341) 2 342) 3 343) 4 344) 5 345) 6 346) 7 347) 8 348) 9 349)
def mx_b0 (a : Nat) : Nat → Option Nat := (va_up (va_up (va_up (va_up (va_up (va_up (va_up (va_up (va_up (va_up (fun _ => none) 0 (some (a + 8))) 1 (some (a + 9))) 2 (some (a + 10))) 3 (some (a + 11))) 4 (some (a + 12))) 5 (some (a + 13))) 6 (some (a + 14))) 7 (some (a + 15))) 8 (some (a + 16))) 9 (some (a + 17)))
def mx_h0 (a : Nat) : Nat → Option Nat := (va_up (va_up (va_up (va_up (fun _ => none) 0 (some (a + 2))) 1 (some (a + 20))) 2 (some (a + 38))) 3 (some (a + 56)))
def mx_st (w : mc_w) (a : Nat) : List va_E := [.inr (5, [.ref (a + 1), .ref (a + 2), .ref (a + 5), .ref (a + 7), .int 0, .int 0, .int 20, .int 200]), .inr (1, [.int 0, .int 0, .int 0]), .inr (7, [.ref (a + 3), .ref (a + 4)]), .inl (w.2.1 1, 10, .inl mx_w0), .inl (w.2.1 1, 10, .inl mx_s0), .inr (4, [.ref (a + 6), .int 0, .int 0, .int 0, .int 0, .int 0, .int 0]), .inl (w.2.1 1, 12, .inl (fun _ => 0)), .inl (w.2.1 2, 10, .inr (.inr (.inr (.inr (mx_b0 a))))), .inr (0, [.int 0, .int 0, .int 0, .int 0, .int 0, .int 0, .int 0, .int 0, .int 0, .int 0, .int 0]), .inr (0, [.int 0, .int 0, .int 0, .int 0, .int 0, .int 0, .int 0, .int 0, .int 0, .int 0, .int 0]), .inr (0, [.int 0, .int 0, .int 0, .int 0, .int 0, .int 0, .int 0, .int 0, .int 0, .int 0, .int 0]), .inr (0, [.int 0, .int 0, .int 0, .int 0, .int 0, .int 0, .int 0, .int 0, .int 0, .int 0, .int 0]), .inr (0, [.int 0, .int 0, .int 0, .int 0, .int 0, .int 0, .int 0, .int 0, .int 0, .int 0, .int 0]), .inr (0, [.int 0, .int 0, .int 0, .int 0, .int 0, .int 0, .int 0, .int 0, .int 0, .int 0, .int 0]), .inr (0, [.int 0, .int 0, .int 0, .int 0, .int 0, .int 0, .int 0, .int 0, .int 0, .int 0, .int 0]), .inr (0, [.int 0, .int 0, .int 0, .int 0, .int 0, .int 0, .int 0, .int 0, .int 0, .int 0, .int 0]), .inr (0, [.int 0, .int 0, .int 0, .int 0, .int 0, .int 0, .int 0, .int 0, .int 0, .int 0, .int 0]), .inr (0, [.int 0, .int 0, .int 0, .int 0, .int 0, .int 0, .int 0, .int 0, .int 0, .int 0, .int 0])]
def mx_m0 : Nat → Int32 := (va_up (va_up (va_up (va_up (va_up (va_up (va_up (va_up (va_up (va_up (va_up (va_up (va_up (va_up (va_up (va_up (va_up (va_up (va_up (va_up (va_up (va_up (fun _ => 0) 11 20) 12 200) 13 200) 14 340) 15 180) 16 341) 17 160) 18 342) 19 140) 20 343) 21 120) 22 344) 23 100) 24 345) 25 80) 26 346) 27 60) 28 347) 29 40) 30 348) 31 20) 32 349)
def mx_hi (w : mc_w) (a : Nat) : List va_E := [.inr (3, [.ref (a + 1), .int 0]), .inl (w.2.1 3, 4, .inr (.inr (.inr (.inr (mx_h0 a)))))] ++ mx_st w (a + 2) ++ mx_st w (a + 20) ++ mx_st w (a + 38) ++ mx_st w (a + 56)
def mx_ma (w : mc_w) (a : Nat) : List va_E := [.inr (8, [.ref (a + 1), .ref (a + 19), .ref (a + 37), .ref (a + 55), .int 0, .ref (a + 73), .ref (a + 147), .ref (a + 149), .int 0, .int 0, .int 0])] ++ mx_st w (a + 1) ++ mx_st w (a + 19) ++ mx_st w (a + 37) ++ mx_st w (a + 55) ++ mx_hi w (a + 73) ++ [.inr (6, [.ref ((a + 147) + 1), .int 0]), .inl (w.2.1 0, 60, .inl (fun _ => 0))] ++ [.inr (2, [.ref ((a + 149) + 1), .ref ((a + 149) + 2), .int 0, .int 0]), .inl (w.2.1 0, 60, .inl (fun _ => 0)), .inl (w.2.1 1, 60, .inl (fun _ => 0))]
theorem wy_X0_init : Cond.instanceMethod yX0_init ∈ mc_big ∧ Cond.initialized yX0_init.cls ∈ mc_big ∧ Cond.code yX0_init cX0_init 1 none ∈ mc_big := ⟨wi_X0_init, wn_X0, wc_X0_init⟩
theorem wd_X0_init : yX0_init.name = "<init>" ∧ yX0_init.cls ≠ "java/lang/invoke/MethodHandle" ∧ yX0_init.cls ≠ "java/lang/invoke/VarHandle" ∧ (parseMethodDescriptor yX0_init.desc).map (fun d => d.parameters.length) = some 0 := ⟨rfl, by decide +kernel, by decide +kernel, by decide +kernel⟩
set_option maxHeartbeats 4000000 in
set_option maxRecDepth 100000 in
theorem ct_X0_init (l : Launch) {w : mc_w} (n : Nat) : Met l yX0_init (Cond.code yX0_init cX0_init 1 none :: mc_big) ({ frames := 1, cells := 0, slots := 0, locals := 20 } : Room) (va_Pc [.ref n] (mx_B w n [.inr (0, [.int 0, .int 0, .int 0, .int 0, .int 0, .int 0, .int 0, .int 0, .int 0, .int 0, .int 0])])) (mc_Q none (mx_B w n ([.inr (0, [.int 0, .int 0, .int 0, .int 0, .int 0, .int 0, .int 0, .int 0, .int 0, .int 0, .int 0])])) (fun q => n ≤ q)) 0 0 (fun q => n ≤ q) := by
  refine Met.ofW (cc := cX0_init) (maxL := 1) (ret := none) (by decide) rfl ?_
  intro p e s m args below meth c s₁ B hml hv
  obtain ⟨rfl, hP, K⟩ := hv
  have hown : s.vm.findClass RX0 = some m.cls := findClass_of_methodNamed B.named
  have C : CallFix p m c cX0_init 1 s _ mc_big RX0 := ⟨B.exec, B.bytes, hml, hown, fun w hw => atoms_spec B.pre w (List.mem_cons_of_mem _ hw)⟩
  have hx := C.1
  have hb := C.2.1
  have hr := B.returns
  have hlk := B.notSynchronized
  have hin : meth.name = "<init>" := (name_of_methodNamed B.named B.method).1
  have hS : va_S (fun q => n ≤ q) s.heap s.heap [] := va_S.rf
  have hl := lv_entry ([.ref (n + 0)]) (n := 1) (Nat.le_of_ble_eq_true rfl)
  show W p l e _ s m _ below meth c s.heap [] 0 0 _ (entryFrame m ([.ref (n + 0)] : List Value).toArray 1)
  rw [lg_entry_eq]
  generalize (lg_sl ([.ref (n + 0)]) ++ List.replicate (1 - (lg_sl ([.ref (n + 0)])).length) Slot.unset).toArray = ls at hl ⊢
  have hl : lv_has ls 1 [(0, .ref (n + 0))] := hl
  have hP : mx_P w n ([.inr (0, [.int 0, .int 0, .int 0, .int 0, .int 0, .int 0, .int 0, .int 0, .int 0, .int 0, .int 0])]) s.heap := hP
  refine lv_aload_n hx hb dX0_init_0 rfl (lv_at hl 0 rfl) ?_
  refine mx_obj C hl.1 ml_X0_3 (Nat.le_of_ble_eq_true rfl) (Nat.le_of_ble_eq_true rfl) dX0_init_1 ?_
  exact mx_ret (es1 := [.inr (0, [.int 0, .int 0, .int 0, .int 0, .int 0, .int 0, .int 0, .int 0, .int 0, .int 0, .int 0])]) hx hb hr hlk K hP hS dX0_init_4
theorem wy_X1_init : Cond.instanceMethod yX1_init ∈ mc_big ∧ Cond.initialized yX1_init.cls ∈ mc_big ∧ Cond.code yX1_init cX1_init 1 none ∈ mc_big := ⟨wi_X1_init, wn_X1, wc_X1_init⟩
theorem wd_X1_init : yX1_init.name = "<init>" ∧ yX1_init.cls ≠ "java/lang/invoke/MethodHandle" ∧ yX1_init.cls ≠ "java/lang/invoke/VarHandle" ∧ (parseMethodDescriptor yX1_init.desc).map (fun d => d.parameters.length) = some 0 := ⟨rfl, by decide +kernel, by decide +kernel, by decide +kernel⟩
set_option maxHeartbeats 4000000 in
set_option maxRecDepth 100000 in
theorem ct_X1_init (l : Launch) {w : mc_w} (n : Nat) : Met l yX1_init (Cond.code yX1_init cX1_init 1 none :: mc_big) ({ frames := 1, cells := 0, slots := 0, locals := 20 } : Room) (va_Pc [.ref n] (mx_B w n [.inr (1, [.int 0, .int 0, .int 0])])) (mc_Q none (mx_B w n ([.inr (1, [.int 0, .int 0, .int 0])])) (fun q => n ≤ q)) 0 0 (fun q => n ≤ q) := by
  refine Met.ofW (cc := cX1_init) (maxL := 1) (ret := none) (by decide) rfl ?_
  intro p e s m args below meth c s₁ B hml hv
  obtain ⟨rfl, hP, K⟩ := hv
  have hown : s.vm.findClass RX1 = some m.cls := findClass_of_methodNamed B.named
  have C : CallFix p m c cX1_init 1 s _ mc_big RX1 := ⟨B.exec, B.bytes, hml, hown, fun w hw => atoms_spec B.pre w (List.mem_cons_of_mem _ hw)⟩
  have hx := C.1
  have hb := C.2.1
  have hr := B.returns
  have hlk := B.notSynchronized
  have hin : meth.name = "<init>" := (name_of_methodNamed B.named B.method).1
  have hS : va_S (fun q => n ≤ q) s.heap s.heap [] := va_S.rf
  have hl := lv_entry ([.ref (n + 0)]) (n := 1) (Nat.le_of_ble_eq_true rfl)
  show W p l e _ s m _ below meth c s.heap [] 0 0 _ (entryFrame m ([.ref (n + 0)] : List Value).toArray 1)
  rw [lg_entry_eq]
  generalize (lg_sl ([.ref (n + 0)]) ++ List.replicate (1 - (lg_sl ([.ref (n + 0)])).length) Slot.unset).toArray = ls at hl ⊢
  have hl : lv_has ls 1 [(0, .ref (n + 0))] := hl
  have hP : mx_P w n ([.inr (1, [.int 0, .int 0, .int 0])]) s.heap := hP
  refine lv_aload_n hx hb dX1_init_0 rfl (lv_at hl 0 rfl) ?_
  refine mx_obj C hl.1 ml_X1_3 (Nat.le_of_ble_eq_true rfl) (Nat.le_of_ble_eq_true rfl) dX1_init_1 ?_
  exact mx_ret (es1 := [.inr (1, [.int 0, .int 0, .int 0])]) hx hb hr hlk K hP hS dX1_init_4
theorem wy_X7_init : Cond.instanceMethod yX7_init ∈ mc_big ∧ Cond.initialized yX7_init.cls ∈ mc_big ∧ Cond.code yX7_init cX7_init 2 none ∈ mc_big := ⟨wi_X7_init, wn_X7, wc_X7_init⟩
theorem wd_X7_init : yX7_init.name = "<init>" ∧ yX7_init.cls ≠ "java/lang/invoke/MethodHandle" ∧ yX7_init.cls ≠ "java/lang/invoke/VarHandle" ∧ (parseMethodDescriptor yX7_init.desc).map (fun d => d.parameters.length) = some 0 := ⟨rfl, by decide +kernel, by decide +kernel, by decide +kernel⟩
set_option maxHeartbeats 4000000 in
set_option maxRecDepth 100000 in
theorem ct_X7_init (l : Launch) {w : mc_w} (n : Nat) : Met l yX7_init (Cond.code yX7_init cX7_init 2 none :: mc_big) ({ frames := 1, cells := 2, slots := 20, locals := 20 } : Room) (va_Pc [.ref n] (mx_B w n [.inr (7, [.null, .null])])) (mc_Q none (mx_B w n ([.inr (7, [.ref (n + 1), .ref (n + 2)]), .inl (w.2.1 1, 10, .inl mx_w0), .inl (w.2.1 1, 10, .inl mx_s0)])) (fun q => n ≤ q)) 2 20 (fun q => n ≤ q) := by
  refine Met.ofW (cc := cX7_init) (maxL := 2) (ret := none) (by decide) rfl ?_
  intro p e s m args below meth c s₁ B hml hv
  obtain ⟨rfl, hP, K⟩ := hv
  have hown : s.vm.findClass RX7 = some m.cls := findClass_of_methodNamed B.named
  have C : CallFix p m c cX7_init 2 s _ mc_big RX7 := ⟨B.exec, B.bytes, hml, hown, fun w hw => atoms_spec B.pre w (List.mem_cons_of_mem _ hw)⟩
  have hx := C.1
  have hb := C.2.1
  have hr := B.returns
  have hlk := B.notSynchronized
  have hin : meth.name = "<init>" := (name_of_methodNamed B.named B.method).1
  have hS : va_S (fun q => n ≤ q) s.heap s.heap [] := va_S.rf
  have hl := lv_entry ([.ref (n + 0)]) (n := 2) (Nat.le_of_ble_eq_true rfl)
  show W p l e _ s m _ below meth c s.heap [] 0 0 _ (entryFrame m ([.ref (n + 0)] : List Value).toArray 2)
  rw [lg_entry_eq]
  generalize (lg_sl ([.ref (n + 0)]) ++ List.replicate (2 - (lg_sl ([.ref (n + 0)])).length) Slot.unset).toArray = ls at hl ⊢
  have hl : lv_has ls 2 [(0, .ref (n + 0))] := hl
  have hP : mx_P w n ([.inr (7, [.null, .null])]) s.heap := hP
  refine lv_aload_n hx hb dX7_init_0 rfl (lv_at hl 0 rfl) ?_
  refine mx_obj C hl.1 ml_X7_3 (Nat.le_of_ble_eq_true rfl) (Nat.le_of_ble_eq_true rfl) dX7_init_1 ?_
  refine lv_aload_n hx hb dX7_init_4 rfl (lv_at hl 0 rfl) ?_
  refine lv_bipush (v := 10) hx hb dX7_init_5 (by decide) ?_
  refine mx_newa (atype := .int) (t0 := 1) (ty := .int) (cA := w.2.1 1) (Z := 10) C K hP hS rfl rfl (Or.inl rfl) wa_int (by decide) (by decide) (Nat.le_of_ble_eq_true rfl) (Nat.le_of_ble_eq_true rfl) (Nat.le_of_ble_eq_true rfl) dX7_init_7 (fun H hP hS => ?_)
  have hP : mx_P w n ([.inr (7, [.null, .null]), .inl (w.2.1 1, 10, .inl (fun _ => 0))]) H := hP
  refine W.widen (k := 1) (n := 10) (Nat.le_of_ble_eq_true rfl) (Nat.le_of_ble_eq_true rfl) ?_
  refine mx_putF (k := 0) (ci := 7) (Cn := RX7) (T := TX7) (N0 := 2) (ty0 := tyX7) (ty := (.array .int)) (j := 0) C K hP hS hin rfl mc_in7 tyX7_ok nmX7 rfl (by decide) fl_X7_9 rfl rfl rfl (by decide +kernel) rfl rfl (Nat.le_of_ble_eq_true rfl) dX7_init_9 (fun H locs hP hS => ?_)
  have hP : mx_P w n ([.inr (7, [.ref (n + 1), .null]), .inl (w.2.1 1, 10, .inl (fun _ => 0))]) H := hP
  refine lv_aload_n hx hb dX7_init_12 rfl (lv_at hl 0 rfl) ?_
  refine lv_bipush (v := 10) hx hb dX7_init_13 (by decide) ?_
  refine mx_newa (atype := .int) (t0 := 1) (ty := .int) (cA := w.2.1 1) (Z := 10) C K hP hS rfl rfl (Or.inl rfl) wa_int (by decide) (by decide) (Nat.le_of_ble_eq_true rfl) (Nat.le_of_ble_eq_true rfl) (Nat.le_of_ble_eq_true rfl) dX7_init_15 (fun H hP hS => ?_)
  have hP : mx_P w n ([.inr (7, [.ref (n + 1), .null]), .inl (w.2.1 1, 10, .inl (fun _ => 0)), .inl (w.2.1 1, 10, .inl (fun _ => 0))]) H := hP
  refine W.widen (k := 2) (n := 20) (Nat.le_of_ble_eq_true rfl) (Nat.le_of_ble_eq_true rfl) ?_
  refine mx_putF (k := 0) (ci := 7) (Cn := RX7) (T := TX7) (N0 := 2) (ty0 := tyX7) (ty := (.array .int)) (j := 1) C K hP hS hin rfl mc_in7 tyX7_ok nmX7 rfl (by decide) fl_X7_15 rfl rfl rfl (by decide +kernel) rfl rfl (Nat.le_of_ble_eq_true rfl) dX7_init_17 (fun H locs hP hS => ?_)
  have hP : mx_P w n ([.inr (7, [.ref (n + 1), .ref (n + 2)]), .inl (w.2.1 1, 10, .inl (fun _ => 0)), .inl (w.2.1 1, 10, .inl (fun _ => 0))]) H := hP
  refine lv_iconst (v := 0) hx hb dX7_init_20 (by decide) ?_
  refine lv_istore_n (lv' := [(1, .int 0), (0, .ref (n + 0))]) hx hb dX7_init_21 rfl hl (by decide) rfl (fun ls hl => ?_)
  refine lv_iload_n hx hb dX7_init_22 rfl (lv_at hl 0 rfl) ?_
  refine lv_bipush (v := 10) hx hb dX7_init_23 (by decide) ?_
  refine lv_icmp_ge (tgt := 59) hx hb dX7_init_25 (by decide) (fun c => absurd c (by decide)) (fun _ => ?_)
  refine lv_aload_n hx hb dX7_init_28 rfl (lv_at hl 1 rfl) ?_
  refine mx_get (k := 0) (ci := 7) (Cn := RX7) (T := TX7) (N0 := 2) (j := 0) (v := .ref (n + 1)) C K hP rfl mc_in7 rfl (by decide) fl_X7_9 rfl rfl dX7_init_29 ?_
  refine lv_iload_n hx hb dX7_init_32 rfl (lv_at hl 0 rfl) ?_
  refine lv_sipush (v := 200) hx hb dX7_init_33 (by decide) ?_
  refine lv_bipush (v := 20) hx hb dX7_init_36 (by decide) ?_
  refine lv_iload_n hx hb dX7_init_38 rfl (lv_at hl 0 rfl) ?_
  refine lv_imul hx hb dX7_init_39 ?_
  refine mv_top (y := 0) (by decide) ?_
  refine lv_isub hx hb dX7_init_40 ?_
  refine mv_top (y := 200) (by decide) ?_
  refine mx_ias (k := 1) (Z := 10) (f1 := (va_up (fun _ => 0) 0 200)) C K hP hS rfl (by decide) rfl dX7_init_41 (fun H locs hP hS => ?_)
  have hP : mx_P w n ([.inr (7, [.ref (n + 1), .ref (n + 2)]), .inl (w.2.1 1, 10, .inl (va_up (fun _ => 0) 0 200)), .inl (w.2.1 1, 10, .inl (fun _ => 0))]) H := hP
  refine lv_aload_n hx hb dX7_init_42 rfl (lv_at hl 1 rfl) ?_
  refine mx_get (k := 0) (ci := 7) (Cn := RX7) (T := TX7) (N0 := 2) (j := 1) (v := .ref (n + 2)) C K hP rfl mc_in7 rfl (by decide) fl_X7_15 rfl rfl dX7_init_43 ?_
  refine lv_iload_n hx hb dX7_init_46 rfl (lv_at hl 0 rfl) ?_
  refine lv_sipush (v := 340) hx hb dX7_init_47 (by decide) ?_
  refine lv_iload_n hx hb dX7_init_50 rfl (lv_at hl 0 rfl) ?_
  refine lv_iadd hx hb dX7_init_51 ?_
  refine mv_top (y := 340) (by decide) ?_
  refine mx_ias (k := 2) (Z := 10) (f1 := (va_up (fun _ => 0) 0 340)) C K hP hS rfl (by decide) rfl dX7_init_52 (fun H locs hP hS => ?_)
  have hP : mx_P w n ([.inr (7, [.ref (n + 1), .ref (n + 2)]), .inl (w.2.1 1, 10, .inl (va_up (fun _ => 0) 0 200)), .inl (w.2.1 1, 10, .inl (va_up (fun _ => 0) 0 340))]) H := hP
  refine lv_iinc (v := 1) (lv' := [(1, .int 1), (0, .ref (n + 0))]) hx hb dX7_init_53 hl (k := 0) rfl (by decide) (by decide) rfl (fun ls hl => ?_)
  refine lv_goto (tgt := 22) hx hb dX7_init_56 (by decide) ?_
  refine lv_iload_n hx hb dX7_init_22 rfl (lv_at hl 0 rfl) ?_
  refine lv_bipush (v := 10) hx hb dX7_init_23 (by decide) ?_
  refine lv_icmp_ge (tgt := 59) hx hb dX7_init_25 (by decide) (fun c => absurd c (by decide)) (fun _ => ?_)
  refine lv_aload_n hx hb dX7_init_28 rfl (lv_at hl 1 rfl) ?_
  refine mx_get (k := 0) (ci := 7) (Cn := RX7) (T := TX7) (N0 := 2) (j := 0) (v := .ref (n + 1)) C K hP rfl mc_in7 rfl (by decide) fl_X7_9 rfl rfl dX7_init_29 ?_
  refine lv_iload_n hx hb dX7_init_32 rfl (lv_at hl 0 rfl) ?_
  refine lv_sipush (v := 200) hx hb dX7_init_33 (by decide) ?_
  refine lv_bipush (v := 20) hx hb dX7_init_36 (by decide) ?_
  refine lv_iload_n hx hb dX7_init_38 rfl (lv_at hl 0 rfl) ?_
  refine lv_imul hx hb dX7_init_39 ?_
  refine mv_top (y := 20) (by decide) ?_
  refine lv_isub hx hb dX7_init_40 ?_
  refine mv_top (y := 180) (by decide) ?_
  refine mx_ias (k := 1) (Z := 10) (f1 := (va_up (va_up (fun _ => 0) 0 200) 1 180)) C K hP hS rfl (by decide) rfl dX7_init_41 (fun H locs hP hS => ?_)
  have hP : mx_P w n ([.inr (7, [.ref (n + 1), .ref (n + 2)]), .inl (w.2.1 1, 10, .inl (va_up (va_up (fun _ => 0) 0 200) 1 180)), .inl (w.2.1 1, 10, .inl (va_up (fun _ => 0) 0 340))]) H := hP
  refine lv_aload_n hx hb dX7_init_42 rfl (lv_at hl 1 rfl) ?_
  refine mx_get (k := 0) (ci := 7) (Cn := RX7) (T := TX7) (N0 := 2) (j := 1) (v := .ref (n + 2)) C K hP rfl mc_in7 rfl (by decide) fl_X7_15 rfl rfl dX7_init_43 ?_
  refine lv_iload_n hx hb dX7_init_46 rfl (lv_at hl 0 rfl) ?_
  refine lv_sipush (v := 340) hx hb dX7_init_47 (by decide) ?_
  refine lv_iload_n hx hb dX7_init_50 rfl (lv_at hl 0 rfl) ?_
  refine lv_iadd hx hb dX7_init_51 ?_
  refine mv_top (y := 341) (by decide) ?_
  refine mx_ias (k := 2) (Z := 10) (f1 := (va_up (va_up (fun _ => 0) 0 340) 1 341)) C K hP hS rfl (by decide) rfl dX7_init_52 (fun H locs hP hS => ?_)
  have hP : mx_P w n ([.inr (7, [.ref (n + 1), .ref (n + 2)]), .inl (w.2.1 1, 10, .inl (va_up (va_up (fun _ => 0) 0 200) 1 180)), .inl (w.2.1 1, 10, .inl (va_up (va_up (fun _ => 0) 0 340) 1 341))]) H := hP
  refine lv_iinc (v := 2) (lv' := [(1, .int 2), (0, .ref (n + 0))]) hx hb dX7_init_53 hl (k := 0) rfl (by decide) (by decide) rfl (fun ls hl => ?_)
  refine lv_goto (tgt := 22) hx hb dX7_init_56 (by decide) ?_
  refine lv_iload_n hx hb dX7_init_22 rfl (lv_at hl 0 rfl) ?_
  refine lv_bipush (v := 10) hx hb dX7_init_23 (by decide) ?_
  refine lv_icmp_ge (tgt := 59) hx hb dX7_init_25 (by decide) (fun c => absurd c (by decide)) (fun _ => ?_)
  refine lv_aload_n hx hb dX7_init_28 rfl (lv_at hl 1 rfl) ?_
  refine mx_get (k := 0) (ci := 7) (Cn := RX7) (T := TX7) (N0 := 2) (j := 0) (v := .ref (n + 1)) C K hP rfl mc_in7 rfl (by decide) fl_X7_9 rfl rfl dX7_init_29 ?_
  refine lv_iload_n hx hb dX7_init_32 rfl (lv_at hl 0 rfl) ?_
  refine lv_sipush (v := 200) hx hb dX7_init_33 (by decide) ?_
  refine lv_bipush (v := 20) hx hb dX7_init_36 (by decide) ?_
  refine lv_iload_n hx hb dX7_init_38 rfl (lv_at hl 0 rfl) ?_
  refine lv_imul hx hb dX7_init_39 ?_
  refine mv_top (y := 40) (by decide) ?_
  refine lv_isub hx hb dX7_init_40 ?_
  refine mv_top (y := 160) (by decide) ?_
  refine mx_ias (k := 1) (Z := 10) (f1 := (va_up (va_up (va_up (fun _ => 0) 0 200) 1 180) 2 160)) C K hP hS rfl (by decide) rfl dX7_init_41 (fun H locs hP hS => ?_)
  have hP : mx_P w n ([.inr (7, [.ref (n + 1), .ref (n + 2)]), .inl (w.2.1 1, 10, .inl (va_up (va_up (va_up (fun _ => 0) 0 200) 1 180) 2 160)), .inl (w.2.1 1, 10, .inl (va_up (va_up (fun _ => 0) 0 340) 1 341))]) H := hP
  refine lv_aload_n hx hb dX7_init_42 rfl (lv_at hl 1 rfl) ?_
  refine mx_get (k := 0) (ci := 7) (Cn := RX7) (T := TX7) (N0 := 2) (j := 1) (v := .ref (n + 2)) C K hP rfl mc_in7 rfl (by decide) fl_X7_15 rfl rfl dX7_init_43 ?_
  refine lv_iload_n hx hb dX7_init_46 rfl (lv_at hl 0 rfl) ?_
  refine lv_sipush (v := 340) hx hb dX7_init_47 (by decide) ?_
  refine lv_iload_n hx hb dX7_init_50 rfl (lv_at hl 0 rfl) ?_
  refine lv_iadd hx hb dX7_init_51 ?_
  refine mv_top (y := 342) (by decide) ?_
  refine mx_ias (k := 2) (Z := 10) (f1 := (va_up (va_up (va_up (fun _ => 0) 0 340) 1 341) 2 342)) C K hP hS rfl (by decide) rfl dX7_init_52 (fun H locs hP hS => ?_)
  have hP : mx_P w n ([.inr (7, [.ref (n + 1), .ref (n + 2)]), .inl (w.2.1 1, 10, .inl (va_up (va_up (va_up (fun _ => 0) 0 200) 1 180) 2 160)), .inl (w.2.1 1, 10, .inl (va_up (va_up (va_up (fun _ => 0) 0 340) 1 341) 2 342))]) H := hP
  refine lv_iinc (v := 3) (lv' := [(1, .int 3), (0, .ref (n + 0))]) hx hb dX7_init_53 hl (k := 0) rfl (by decide) (by decide) rfl (fun ls hl => ?_)
  refine lv_goto (tgt := 22) hx hb dX7_init_56 (by decide) ?_
  refine lv_iload_n hx hb dX7_init_22 rfl (lv_at hl 0 rfl) ?_
  refine lv_bipush (v := 10) hx hb dX7_init_23 (by decide) ?_
  refine lv_icmp_ge (tgt := 59) hx hb dX7_init_25 (by decide) (fun c => absurd c (by decide)) (fun _ => ?_)
  refine lv_aload_n hx hb dX7_init_28 rfl (lv_at hl 1 rfl) ?_
  refine mx_get (k := 0) (ci := 7) (Cn := RX7) (T := TX7) (N0 := 2) (j := 0) (v := .ref (n + 1)) C K hP rfl mc_in7 rfl (by decide) fl_X7_9 rfl rfl dX7_init_29 ?_
  refine lv_iload_n hx hb dX7_init_32 rfl (lv_at hl 0 rfl) ?_
  refine lv_sipush (v := 200) hx hb dX7_init_33 (by decide) ?_
  refine lv_bipush (v := 20) hx hb dX7_init_36 (by decide) ?_
  refine lv_iload_n hx hb dX7_init_38 rfl (lv_at hl 0 rfl) ?_
  refine lv_imul hx hb dX7_init_39 ?_
  refine mv_top (y := 60) (by decide) ?_
  refine lv_isub hx hb dX7_init_40 ?_
  refine mv_top (y := 140) (by decide) ?_
  refine mx_ias (k := 1) (Z := 10) (f1 := (va_up (va_up (va_up (va_up (fun _ => 0) 0 200) 1 180) 2 160) 3 140)) C K hP hS rfl (by decide) rfl dX7_init_41 (fun H locs hP hS => ?_)
  have hP : mx_P w n ([.inr (7, [.ref (n + 1), .ref (n + 2)]), .inl (w.2.1 1, 10, .inl (va_up (va_up (va_up (va_up (fun _ => 0) 0 200) 1 180) 2 160) 3 140)), .inl (w.2.1 1, 10, .inl (va_up (va_up (va_up (fun _ => 0) 0 340) 1 341) 2 342))]) H := hP
  refine lv_aload_n hx hb dX7_init_42 rfl (lv_at hl 1 rfl) ?_
  refine mx_get (k := 0) (ci := 7) (Cn := RX7) (T := TX7) (N0 := 2) (j := 1) (v := .ref (n + 2)) C K hP rfl mc_in7 rfl (by decide) fl_X7_15 rfl rfl dX7_init_43 ?_
  refine lv_iload_n hx hb dX7_init_46 rfl (lv_at hl 0 rfl) ?_
  refine lv_sipush (v := 340) hx hb dX7_init_47 (by decide) ?_
  refine lv_iload_n hx hb dX7_init_50 rfl (lv_at hl 0 rfl) ?_
  refine lv_iadd hx hb dX7_init_51 ?_
  refine mv_top (y := 343) (by decide) ?_
  refine mx_ias (k := 2) (Z := 10) (f1 := (va_up (va_up (va_up (va_up (fun _ => 0) 0 340) 1 341) 2 342) 3 343)) C K hP hS rfl (by decide) rfl dX7_init_52 (fun H locs hP hS => ?_)
  have hP : mx_P w n ([.inr (7, [.ref (n + 1), .ref (n + 2)]), .inl (w.2.1 1, 10, .inl (va_up (va_up (va_up (va_up (fun _ => 0) 0 200) 1 180) 2 160) 3 140)), .inl (w.2.1 1, 10, .inl (va_up (va_up (va_up (va_up (fun _ => 0) 0 340) 1 341) 2 342) 3 343))]) H := hP
  refine lv_iinc (v := 4) (lv' := [(1, .int 4), (0, .ref (n + 0))]) hx hb dX7_init_53 hl (k := 0) rfl (by decide) (by decide) rfl (fun ls hl => ?_)
  refine lv_goto (tgt := 22) hx hb dX7_init_56 (by decide) ?_
  refine lv_iload_n hx hb dX7_init_22 rfl (lv_at hl 0 rfl) ?_
  refine lv_bipush (v := 10) hx hb dX7_init_23 (by decide) ?_
  refine lv_icmp_ge (tgt := 59) hx hb dX7_init_25 (by decide) (fun c => absurd c (by decide)) (fun _ => ?_)
  refine lv_aload_n hx hb dX7_init_28 rfl (lv_at hl 1 rfl) ?_
  refine mx_get (k := 0) (ci := 7) (Cn := RX7) (T := TX7) (N0 := 2) (j := 0) (v := .ref (n + 1)) C K hP rfl mc_in7 rfl (by decide) fl_X7_9 rfl rfl dX7_init_29 ?_
  refine lv_iload_n hx hb dX7_init_32 rfl (lv_at hl 0 rfl) ?_
  refine lv_sipush (v := 200) hx hb dX7_init_33 (by decide) ?_
  refine lv_bipush (v := 20) hx hb dX7_init_36 (by decide) ?_
  refine lv_iload_n hx hb dX7_init_38 rfl (lv_at hl 0 rfl) ?_
  refine lv_imul hx hb dX7_init_39 ?_
  refine mv_top (y := 80) (by decide) ?_
  refine lv_isub hx hb dX7_init_40 ?_
  refine mv_top (y := 120) (by decide) ?_
  refine mx_ias (k := 1) (Z := 10) (f1 := (va_up (va_up (va_up (va_up (va_up (fun _ => 0) 0 200) 1 180) 2 160) 3 140) 4 120)) C K hP hS rfl (by decide) rfl dX7_init_41 (fun H locs hP hS => ?_)
  have hP : mx_P w n ([.inr (7, [.ref (n + 1), .ref (n + 2)]), .inl (w.2.1 1, 10, .inl (va_up (va_up (va_up (va_up (va_up (fun _ => 0) 0 200) 1 180) 2 160) 3 140) 4 120)), .inl (w.2.1 1, 10, .inl (va_up (va_up (va_up (va_up (fun _ => 0) 0 340) 1 341) 2 342) 3 343))]) H := hP
  refine lv_aload_n hx hb dX7_init_42 rfl (lv_at hl 1 rfl) ?_
  refine mx_get (k := 0) (ci := 7) (Cn := RX7) (T := TX7) (N0 := 2) (j := 1) (v := .ref (n + 2)) C K hP rfl mc_in7 rfl (by decide) fl_X7_15 rfl rfl dX7_init_43 ?_
  refine lv_iload_n hx hb dX7_init_46 rfl (lv_at hl 0 rfl) ?_
  refine lv_sipush (v := 340) hx hb dX7_init_47 (by decide) ?_
  refine lv_iload_n hx hb dX7_init_50 rfl (lv_at hl 0 rfl) ?_
  refine lv_iadd hx hb dX7_init_51 ?_
  refine mv_top (y := 344) (by decide) ?_
  refine mx_ias (k := 2) (Z := 10) (f1 := (va_up (va_up (va_up (va_up (va_up (fun _ => 0) 0 340) 1 341) 2 342) 3 343) 4 344)) C K hP hS rfl (by decide) rfl dX7_init_52 (fun H locs hP hS => ?_)
  have hP : mx_P w n ([.inr (7, [.ref (n + 1), .ref (n + 2)]), .inl (w.2.1 1, 10, .inl (va_up (va_up (va_up (va_up (va_up (fun _ => 0) 0 200) 1 180) 2 160) 3 140) 4 120)), .inl (w.2.1 1, 10, .inl (va_up (va_up (va_up (va_up (va_up (fun _ => 0) 0 340) 1 341) 2 342) 3 343) 4 344))]) H := hP
  refine lv_iinc (v := 5) (lv' := [(1, .int 5), (0, .ref (n + 0))]) hx hb dX7_init_53 hl (k := 0) rfl (by decide) (by decide) rfl (fun ls hl => ?_)
  refine lv_goto (tgt := 22) hx hb dX7_init_56 (by decide) ?_
  refine lv_iload_n hx hb dX7_init_22 rfl (lv_at hl 0 rfl) ?_
  refine lv_bipush (v := 10) hx hb dX7_init_23 (by decide) ?_
  refine lv_icmp_ge (tgt := 59) hx hb dX7_init_25 (by decide) (fun c => absurd c (by decide)) (fun _ => ?_)
  refine lv_aload_n hx hb dX7_init_28 rfl (lv_at hl 1 rfl) ?_
  refine mx_get (k := 0) (ci := 7) (Cn := RX7) (T := TX7) (N0 := 2) (j := 0) (v := .ref (n + 1)) C K hP rfl mc_in7 rfl (by decide) fl_X7_9 rfl rfl dX7_init_29 ?_
  refine lv_iload_n hx hb dX7_init_32 rfl (lv_at hl 0 rfl) ?_
  refine lv_sipush (v := 200) hx hb dX7_init_33 (by decide) ?_
  refine lv_bipush (v := 20) hx hb dX7_init_36 (by decide) ?_
  refine lv_iload_n hx hb dX7_init_38 rfl (lv_at hl 0 rfl) ?_
  refine lv_imul hx hb dX7_init_39 ?_
  refine mv_top (y := 100) (by decide) ?_
  refine lv_isub hx hb dX7_init_40 ?_
  refine mv_top (y := 100) (by decide) ?_
  refine mx_ias (k := 1) (Z := 10) (f1 := (va_up (va_up (va_up (va_up (va_up (va_up (fun _ => 0) 0 200) 1 180) 2 160) 3 140) 4 120) 5 100)) C K hP hS rfl (by decide) rfl dX7_init_41 (fun H locs hP hS => ?_)
  have hP : mx_P w n ([.inr (7, [.ref (n + 1), .ref (n + 2)]), .inl (w.2.1 1, 10, .inl (va_up (va_up (va_up (va_up (va_up (va_up (fun _ => 0) 0 200) 1 180) 2 160) 3 140) 4 120) 5 100)), .inl (w.2.1 1, 10, .inl (va_up (va_up (va_up (va_up (va_up (fun _ => 0) 0 340) 1 341) 2 342) 3 343) 4 344))]) H := hP
  refine lv_aload_n hx hb dX7_init_42 rfl (lv_at hl 1 rfl) ?_
  refine mx_get (k := 0) (ci := 7) (Cn := RX7) (T := TX7) (N0 := 2) (j := 1) (v := .ref (n + 2)) C K hP rfl mc_in7 rfl (by decide) fl_X7_15 rfl rfl dX7_init_43 ?_
  refine lv_iload_n hx hb dX7_init_46 rfl (lv_at hl 0 rfl) ?_
  refine lv_sipush (v := 340) hx hb dX7_init_47 (by decide) ?_
  refine lv_iload_n hx hb dX7_init_50 rfl (lv_at hl 0 rfl) ?_
  refine lv_iadd hx hb dX7_init_51 ?_
  refine mv_top (y := 345) (by decide) ?_
  refine mx_ias (k := 2) (Z := 10) (f1 := (va_up (va_up (va_up (va_up (va_up (va_up (fun _ => 0) 0 340) 1 341) 2 342) 3 343) 4 344) 5 345)) C K hP hS rfl (by decide) rfl dX7_init_52 (fun H locs hP hS => ?_)
  have hP : mx_P w n ([.inr (7, [.ref (n + 1), .ref (n + 2)]), .inl (w.2.1 1, 10, .inl (va_up (va_up (va_up (va_up (va_up (va_up (fun _ => 0) 0 200) 1 180) 2 160) 3 140) 4 120) 5 100)), .inl (w.2.1 1, 10, .inl (va_up (va_up (va_up (va_up (va_up (va_up (fun _ => 0) 0 340) 1 341) 2 342) 3 343) 4 344) 5 345))]) H := hP
  refine lv_iinc (v := 6) (lv' := [(1, .int 6), (0, .ref (n + 0))]) hx hb dX7_init_53 hl (k := 0) rfl (by decide) (by decide) rfl (fun ls hl => ?_)
  refine lv_goto (tgt := 22) hx hb dX7_init_56 (by decide) ?_
  refine lv_iload_n hx hb dX7_init_22 rfl (lv_at hl 0 rfl) ?_
  refine lv_bipush (v := 10) hx hb dX7_init_23 (by decide) ?_
  refine lv_icmp_ge (tgt := 59) hx hb dX7_init_25 (by decide) (fun c => absurd c (by decide)) (fun _ => ?_)
  refine lv_aload_n hx hb dX7_init_28 rfl (lv_at hl 1 rfl) ?_
  refine mx_get (k := 0) (ci := 7) (Cn := RX7) (T := TX7) (N0 := 2) (j := 0) (v := .ref (n + 1)) C K hP rfl mc_in7 rfl (by decide) fl_X7_9 rfl rfl dX7_init_29 ?_
  refine lv_iload_n hx hb dX7_init_32 rfl (lv_at hl 0 rfl) ?_
  refine lv_sipush (v := 200) hx hb dX7_init_33 (by decide) ?_
  refine lv_bipush (v := 20) hx hb dX7_init_36 (by decide) ?_
  refine lv_iload_n hx hb dX7_init_38 rfl (lv_at hl 0 rfl) ?_
  refine lv_imul hx hb dX7_init_39 ?_
  refine mv_top (y := 120) (by decide) ?_
  refine lv_isub hx hb dX7_init_40 ?_
  refine mv_top (y := 80) (by decide) ?_
  refine mx_ias (k := 1) (Z := 10) (f1 := (va_up (va_up (va_up (va_up (va_up (va_up (va_up (fun _ => 0) 0 200) 1 180) 2 160) 3 140) 4 120) 5 100) 6 80)) C K hP hS rfl (by decide) rfl dX7_init_41 (fun H locs hP hS => ?_)
  have hP : mx_P w n ([.inr (7, [.ref (n + 1), .ref (n + 2)]), .inl (w.2.1 1, 10, .inl (va_up (va_up (va_up (va_up (va_up (va_up (va_up (fun _ => 0) 0 200) 1 180) 2 160) 3 140) 4 120) 5 100) 6 80)), .inl (w.2.1 1, 10, .inl (va_up (va_up (va_up (va_up (va_up (va_up (fun _ => 0) 0 340) 1 341) 2 342) 3 343) 4 344) 5 345))]) H := hP
  refine lv_aload_n hx hb dX7_init_42 rfl (lv_at hl 1 rfl) ?_
  refine mx_get (k := 0) (ci := 7) (Cn := RX7) (T := TX7) (N0 := 2) (j := 1) (v := .ref (n + 2)) C K hP rfl mc_in7 rfl (by decide) fl_X7_15 rfl rfl dX7_init_43 ?_
  refine lv_iload_n hx hb dX7_init_46 rfl (lv_at hl 0 rfl) ?_
  refine lv_sipush (v := 340) hx hb dX7_init_47 (by decide) ?_
  refine lv_iload_n hx hb dX7_init_50 rfl (lv_at hl 0 rfl) ?_
  refine lv_iadd hx hb dX7_init_51 ?_
  refine mv_top (y := 346) (by decide) ?_
  refine mx_ias (k := 2) (Z := 10) (f1 := (va_up (va_up (va_up (va_up (va_up (va_up (va_up (fun _ => 0) 0 340) 1 341) 2 342) 3 343) 4 344) 5 345) 6 346)) C K hP hS rfl (by decide) rfl dX7_init_52 (fun H locs hP hS => ?_)
  have hP : mx_P w n ([.inr (7, [.ref (n + 1), .ref (n + 2)]), .inl (w.2.1 1, 10, .inl (va_up (va_up (va_up (va_up (va_up (va_up (va_up (fun _ => 0) 0 200) 1 180) 2 160) 3 140) 4 120) 5 100) 6 80)), .inl (w.2.1 1, 10, .inl (va_up (va_up (va_up (va_up (va_up (va_up (va_up (fun _ => 0) 0 340) 1 341) 2 342) 3 343) 4 344) 5 345) 6 346))]) H := hP
  refine lv_iinc (v := 7) (lv' := [(1, .int 7), (0, .ref (n + 0))]) hx hb dX7_init_53 hl (k := 0) rfl (by decide) (by decide) rfl (fun ls hl => ?_)
  refine lv_goto (tgt := 22) hx hb dX7_init_56 (by decide) ?_
  refine lv_iload_n hx hb dX7_init_22 rfl (lv_at hl 0 rfl) ?_
  refine lv_bipush (v := 10) hx hb dX7_init_23 (by decide) ?_
  refine lv_icmp_ge (tgt := 59) hx hb dX7_init_25 (by decide) (fun c => absurd c (by decide)) (fun _ => ?_)
  refine lv_aload_n hx hb dX7_init_28 rfl (lv_at hl 1 rfl) ?_
  refine mx_get (k := 0) (ci := 7) (Cn := RX7) (T := TX7) (N0 := 2) (j := 0) (v := .ref (n + 1)) C K hP rfl mc_in7 rfl (by decide) fl_X7_9 rfl rfl dX7_init_29 ?_
  refine lv_iload_n hx hb dX7_init_32 rfl (lv_at hl 0 rfl) ?_
  refine lv_sipush (v := 200) hx hb dX7_init_33 (by decide) ?_
  refine lv_bipush (v := 20) hx hb dX7_init_36 (by decide) ?_
  refine lv_iload_n hx hb dX7_init_38 rfl (lv_at hl 0 rfl) ?_
  refine lv_imul hx hb dX7_init_39 ?_
  refine mv_top (y := 140) (by decide) ?_
  refine lv_isub hx hb dX7_init_40 ?_
  refine mv_top (y := 60) (by decide) ?_
  refine mx_ias (k := 1) (Z := 10) (f1 := (va_up (va_up (va_up (va_up (va_up (va_up (va_up (va_up (fun _ => 0) 0 200) 1 180) 2 160) 3 140) 4 120) 5 100) 6 80) 7 60)) C K hP hS rfl (by decide) rfl dX7_init_41 (fun H locs hP hS => ?_)
  have hP : mx_P w n ([.inr (7, [.ref (n + 1), .ref (n + 2)]), .inl (w.2.1 1, 10, .inl (va_up (va_up (va_up (va_up (va_up (va_up (va_up (va_up (fun _ => 0) 0 200) 1 180) 2 160) 3 140) 4 120) 5 100) 6 80) 7 60)), .inl (w.2.1 1, 10, .inl (va_up (va_up (va_up (va_up (va_up (va_up (va_up (fun _ => 0) 0 340) 1 341) 2 342) 3 343) 4 344) 5 345) 6 346))]) H := hP
  refine lv_aload_n hx hb dX7_init_42 rfl (lv_at hl 1 rfl) ?_
  refine mx_get (k := 0) (ci := 7) (Cn := RX7) (T := TX7) (N0 := 2) (j := 1) (v := .ref (n + 2)) C K hP rfl mc_in7 rfl (by decide) fl_X7_15 rfl rfl dX7_init_43 ?_
  refine lv_iload_n hx hb dX7_init_46 rfl (lv_at hl 0 rfl) ?_
  refine lv_sipush (v := 340) hx hb dX7_init_47 (by decide) ?_
  refine lv_iload_n hx hb dX7_init_50 rfl (lv_at hl 0 rfl) ?_
  refine lv_iadd hx hb dX7_init_51 ?_
  refine mv_top (y := 347) (by decide) ?_
  refine mx_ias (k := 2) (Z := 10) (f1 := (va_up (va_up (va_up (va_up (va_up (va_up (va_up (va_up (fun _ => 0) 0 340) 1 341) 2 342) 3 343) 4 344) 5 345) 6 346) 7 347)) C K hP hS rfl (by decide) rfl dX7_init_52 (fun H locs hP hS => ?_)
  have hP : mx_P w n ([.inr (7, [.ref (n + 1), .ref (n + 2)]), .inl (w.2.1 1, 10, .inl (va_up (va_up (va_up (va_up (va_up (va_up (va_up (va_up (fun _ => 0) 0 200) 1 180) 2 160) 3 140) 4 120) 5 100) 6 80) 7 60)), .inl (w.2.1 1, 10, .inl (va_up (va_up (va_up (va_up (va_up (va_up (va_up (va_up (fun _ => 0) 0 340) 1 341) 2 342) 3 343) 4 344) 5 345) 6 346) 7 347))]) H := hP
  refine lv_iinc (v := 8) (lv' := [(1, .int 8), (0, .ref (n + 0))]) hx hb dX7_init_53 hl (k := 0) rfl (by decide) (by decide) rfl (fun ls hl => ?_)
  refine lv_goto (tgt := 22) hx hb dX7_init_56 (by decide) ?_
  refine lv_iload_n hx hb dX7_init_22 rfl (lv_at hl 0 rfl) ?_
  refine lv_bipush (v := 10) hx hb dX7_init_23 (by decide) ?_
  refine lv_icmp_ge (tgt := 59) hx hb dX7_init_25 (by decide) (fun c => absurd c (by decide)) (fun _ => ?_)
  refine lv_aload_n hx hb dX7_init_28 rfl (lv_at hl 1 rfl) ?_
  refine mx_get (k := 0) (ci := 7) (Cn := RX7) (T := TX7) (N0 := 2) (j := 0) (v := .ref (n + 1)) C K hP rfl mc_in7 rfl (by decide) fl_X7_9 rfl rfl dX7_init_29 ?_
  refine lv_iload_n hx hb dX7_init_32 rfl (lv_at hl 0 rfl) ?_
  refine lv_sipush (v := 200) hx hb dX7_init_33 (by decide) ?_
  refine lv_bipush (v := 20) hx hb dX7_init_36 (by decide) ?_
  refine lv_iload_n hx hb dX7_init_38 rfl (lv_at hl 0 rfl) ?_
  refine lv_imul hx hb dX7_init_39 ?_
  refine mv_top (y := 160) (by decide) ?_
  refine lv_isub hx hb dX7_init_40 ?_
  refine mv_top (y := 40) (by decide) ?_
  refine mx_ias (k := 1) (Z := 10) (f1 := (va_up (va_up (va_up (va_up (va_up (va_up (va_up (va_up (va_up (fun _ => 0) 0 200) 1 180) 2 160) 3 140) 4 120) 5 100) 6 80) 7 60) 8 40)) C K hP hS rfl (by decide) rfl dX7_init_41 (fun H locs hP hS => ?_)
  have hP : mx_P w n ([.inr (7, [.ref (n + 1), .ref (n + 2)]), .inl (w.2.1 1, 10, .inl (va_up (va_up (va_up (va_up (va_up (va_up (va_up (va_up (va_up (fun _ => 0) 0 200) 1 180) 2 160) 3 140) 4 120) 5 100) 6 80) 7 60) 8 40)), .inl (w.2.1 1, 10, .inl (va_up (va_up (va_up (va_up (va_up (va_up (va_up (va_up (fun _ => 0) 0 340) 1 341) 2 342) 3 343) 4 344) 5 345) 6 346) 7 347))]) H := hP
  refine lv_aload_n hx hb dX7_init_42 rfl (lv_at hl 1 rfl) ?_
  refine mx_get (k := 0) (ci := 7) (Cn := RX7) (T := TX7) (N0 := 2) (j := 1) (v := .ref (n + 2)) C K hP rfl mc_in7 rfl (by decide) fl_X7_15 rfl rfl dX7_init_43 ?_
  refine lv_iload_n hx hb dX7_init_46 rfl (lv_at hl 0 rfl) ?_
  refine lv_sipush (v := 340) hx hb dX7_init_47 (by decide) ?_
  refine lv_iload_n hx hb dX7_init_50 rfl (lv_at hl 0 rfl) ?_
  refine lv_iadd hx hb dX7_init_51 ?_
  refine mv_top (y := 348) (by decide) ?_
  refine mx_ias (k := 2) (Z := 10) (f1 := (va_up (va_up (va_up (va_up (va_up (va_up (va_up (va_up (va_up (fun _ => 0) 0 340) 1 341) 2 342) 3 343) 4 344) 5 345) 6 346) 7 347) 8 348)) C K hP hS rfl (by decide) rfl dX7_init_52 (fun H locs hP hS => ?_)
  have hP : mx_P w n ([.inr (7, [.ref (n + 1), .ref (n + 2)]), .inl (w.2.1 1, 10, .inl (va_up (va_up (va_up (va_up (va_up (va_up (va_up (va_up (va_up (fun _ => 0) 0 200) 1 180) 2 160) 3 140) 4 120) 5 100) 6 80) 7 60) 8 40)), .inl (w.2.1 1, 10, .inl (va_up (va_up (va_up (va_up (va_up (va_up (va_up (va_up (va_up (fun _ => 0) 0 340) 1 341) 2 342) 3 343) 4 344) 5 345) 6 346) 7 347) 8 348))]) H := hP
  refine lv_iinc (v := 9) (lv' := [(1, .int 9), (0, .ref (n + 0))]) hx hb dX7_init_53 hl (k := 0) rfl (by decide) (by decide) rfl (fun ls hl => ?_)
  refine lv_goto (tgt := 22) hx hb dX7_init_56 (by decide) ?_
  refine lv_iload_n hx hb dX7_init_22 rfl (lv_at hl 0 rfl) ?_
  refine lv_bipush (v := 10) hx hb dX7_init_23 (by decide) ?_
  refine lv_icmp_ge (tgt := 59) hx hb dX7_init_25 (by decide) (fun c => absurd c (by decide)) (fun _ => ?_)
  refine lv_aload_n hx hb dX7_init_28 rfl (lv_at hl 1 rfl) ?_
  refine mx_get (k := 0) (ci := 7) (Cn := RX7) (T := TX7) (N0 := 2) (j := 0) (v := .ref (n + 1)) C K hP rfl mc_in7 rfl (by decide) fl_X7_9 rfl rfl dX7_init_29 ?_
  refine lv_iload_n hx hb dX7_init_32 rfl (lv_at hl 0 rfl) ?_
  refine lv_sipush (v := 200) hx hb dX7_init_33 (by decide) ?_
  refine lv_bipush (v := 20) hx hb dX7_init_36 (by decide) ?_
  refine lv_iload_n hx hb dX7_init_38 rfl (lv_at hl 0 rfl) ?_
  refine lv_imul hx hb dX7_init_39 ?_
  refine mv_top (y := 180) (by decide) ?_
  refine lv_isub hx hb dX7_init_40 ?_
  refine mv_top (y := 20) (by decide) ?_
  refine mx_ias (k := 1) (Z := 10) (f1 := (va_up (va_up (va_up (va_up (va_up (va_up (va_up (va_up (va_up (va_up (fun _ => 0) 0 200) 1 180) 2 160) 3 140) 4 120) 5 100) 6 80) 7 60) 8 40) 9 20)) C K hP hS rfl (by decide) rfl dX7_init_41 (fun H locs hP hS => ?_)
  have hP : mx_P w n ([.inr (7, [.ref (n + 1), .ref (n + 2)]), .inl (w.2.1 1, 10, .inl (va_up (va_up (va_up (va_up (va_up (va_up (va_up (va_up (va_up (va_up (fun _ => 0) 0 200) 1 180) 2 160) 3 140) 4 120) 5 100) 6 80) 7 60) 8 40) 9 20)), .inl (w.2.1 1, 10, .inl (va_up (va_up (va_up (va_up (va_up (va_up (va_up (va_up (va_up (fun _ => 0) 0 340) 1 341) 2 342) 3 343) 4 344) 5 345) 6 346) 7 347) 8 348))]) H := hP
  refine lv_aload_n hx hb dX7_init_42 rfl (lv_at hl 1 rfl) ?_
  refine mx_get (k := 0) (ci := 7) (Cn := RX7) (T := TX7) (N0 := 2) (j := 1) (v := .ref (n + 2)) C K hP rfl mc_in7 rfl (by decide) fl_X7_15 rfl rfl dX7_init_43 ?_
  refine lv_iload_n hx hb dX7_init_46 rfl (lv_at hl 0 rfl) ?_
  refine lv_sipush (v := 340) hx hb dX7_init_47 (by decide) ?_
  refine lv_iload_n hx hb dX7_init_50 rfl (lv_at hl 0 rfl) ?_
  refine lv_iadd hx hb dX7_init_51 ?_
  refine mv_top (y := 349) (by decide) ?_
  refine mx_ias (k := 2) (Z := 10) (f1 := (va_up (va_up (va_up (va_up (va_up (va_up (va_up (va_up (va_up (va_up (fun _ => 0) 0 340) 1 341) 2 342) 3 343) 4 344) 5 345) 6 346) 7 347) 8 348) 9 349)) C K hP hS rfl (by decide) rfl dX7_init_52 (fun H locs hP hS => ?_)
  have hP : mx_P w n ([.inr (7, [.ref (n + 1), .ref (n + 2)]), .inl (w.2.1 1, 10, .inl (va_up (va_up (va_up (va_up (va_up (va_up (va_up (va_up (va_up (va_up (fun _ => 0) 0 200) 1 180) 2 160) 3 140) 4 120) 5 100) 6 80) 7 60) 8 40) 9 20)), .inl (w.2.1 1, 10, .inl (va_up (va_up (va_up (va_up (va_up (va_up (va_up (va_up (va_up (va_up (fun _ => 0) 0 340) 1 341) 2 342) 3 343) 4 344) 5 345) 6 346) 7 347) 8 348) 9 349))]) H := hP
  refine lv_iinc (v := 10) (lv' := [(1, .int 10), (0, .ref (n + 0))]) hx hb dX7_init_53 hl (k := 0) rfl (by decide) (by decide) rfl (fun ls hl => ?_)
  refine lv_goto (tgt := 22) hx hb dX7_init_56 (by decide) ?_
  refine lv_iload_n hx hb dX7_init_22 rfl (lv_at hl 0 rfl) ?_
  refine lv_bipush (v := 10) hx hb dX7_init_23 (by decide) ?_
  refine lv_icmp_ge (tgt := 59) hx hb dX7_init_25 (by decide) (fun _ => ?_) (fun c => absurd (by decide) c)
  exact mx_ret (es1 := [.inr (7, [.ref (n + 1), .ref (n + 2)]), .inl (w.2.1 1, 10, .inl mx_w0), .inl (w.2.1 1, 10, .inl mx_s0)]) hx hb hr hlk K hP hS dX7_init_59
theorem wy_X4_init : Cond.instanceMethod yX4_init ∈ mc_big ∧ Cond.initialized yX4_init.cls ∈ mc_big ∧ Cond.code yX4_init cX4_init 1 none ∈ mc_big := ⟨wi_X4_init, wn_X4, wc_X4_init⟩
theorem wd_X4_init : yX4_init.name = "<init>" ∧ yX4_init.cls ≠ "java/lang/invoke/MethodHandle" ∧ yX4_init.cls ≠ "java/lang/invoke/VarHandle" ∧ (parseMethodDescriptor yX4_init.desc).map (fun d => d.parameters.length) = some 0 := ⟨rfl, by decide +kernel, by decide +kernel, by decide +kernel⟩
set_option maxHeartbeats 4000000 in
set_option maxRecDepth 100000 in
theorem ct_X4_init (l : Launch) {w : mc_w} (n : Nat) : Met l yX4_init (Cond.code yX4_init cX4_init 1 none :: mc_big) ({ frames := 1, cells := 1, slots := 12, locals := 20 } : Room) (va_Pc [.ref n] (mx_B w n [.inr (4, [.null, .int 0, .int 0, .int 0, .int 0, .int 0, .int 0])])) (mc_Q none (mx_B w n ([.inr (4, [.ref (n + 1), .int 0, .int 0, .int 0, .int 0, .int 0, .int 0]), .inl (w.2.1 1, 12, .inl (fun _ => 0))])) (fun q => n ≤ q)) 1 12 (fun q => n ≤ q) := by
  refine Met.ofW (cc := cX4_init) (maxL := 1) (ret := none) (by decide) rfl ?_
  intro p e s m args below meth c s₁ B hml hv
  obtain ⟨rfl, hP, K⟩ := hv
  have hown : s.vm.findClass RX4 = some m.cls := findClass_of_methodNamed B.named
  have C : CallFix p m c cX4_init 1 s _ mc_big RX4 := ⟨B.exec, B.bytes, hml, hown, fun w hw => atoms_spec B.pre w (List.mem_cons_of_mem _ hw)⟩
  have hx := C.1
  have hb := C.2.1
  have hr := B.returns
  have hlk := B.notSynchronized
  have hin : meth.name = "<init>" := (name_of_methodNamed B.named B.method).1
  have hS : va_S (fun q => n ≤ q) s.heap s.heap [] := va_S.rf
  have hl := lv_entry ([.ref (n + 0)]) (n := 1) (Nat.le_of_ble_eq_true rfl)
  show W p l e _ s m _ below meth c s.heap [] 0 0 _ (entryFrame m ([.ref (n + 0)] : List Value).toArray 1)
  rw [lg_entry_eq]
  generalize (lg_sl ([.ref (n + 0)]) ++ List.replicate (1 - (lg_sl ([.ref (n + 0)])).length) Slot.unset).toArray = ls at hl ⊢
  have hl : lv_has ls 1 [(0, .ref (n + 0))] := hl
  have hP : mx_P w n ([.inr (4, [.null, .int 0, .int 0, .int 0, .int 0, .int 0, .int 0])]) s.heap := hP
  refine lv_aload_n hx hb dX4_init_0 rfl (lv_at hl 0 rfl) ?_
  refine mx_obj C hl.1 ml_X4_3 (Nat.le_of_ble_eq_true rfl) (Nat.le_of_ble_eq_true rfl) dX4_init_1 ?_
  refine lv_aload_n hx hb dX4_init_4 rfl (lv_at hl 0 rfl) ?_
  refine lv_bipush (v := 12) hx hb dX4_init_5 (by decide) ?_
  refine mx_newa (atype := .int) (t0 := 1) (ty := .int) (cA := w.2.1 1) (Z := 12) C K hP hS rfl rfl (Or.inl rfl) wa_int (by decide) (by decide) (Nat.le_of_ble_eq_true rfl) (Nat.le_of_ble_eq_true rfl) (Nat.le_of_ble_eq_true rfl) dX4_init_7 (fun H hP hS => ?_)
  have hP : mx_P w n ([.inr (4, [.null, .int 0, .int 0, .int 0, .int 0, .int 0, .int 0]), .inl (w.2.1 1, 12, .inl (fun _ => 0))]) H := hP
  refine W.widen (k := 1) (n := 12) (Nat.le_of_ble_eq_true rfl) (Nat.le_of_ble_eq_true rfl) ?_
  refine mx_putF (k := 0) (ci := 4) (Cn := RX4) (T := TX4) (N0 := 7) (ty0 := tyX4) (ty := (.array .int)) (j := 0) C K hP hS hin rfl mc_in4 tyX4_ok nmX4 rfl (by decide) fl_X4_9 rfl rfl rfl (by decide +kernel) rfl rfl (Nat.le_of_ble_eq_true rfl) dX4_init_9 (fun H locs hP hS => ?_)
  have hP : mx_P w n ([.inr (4, [.ref (n + 1), .int 0, .int 0, .int 0, .int 0, .int 0, .int 0]), .inl (w.2.1 1, 12, .inl (fun _ => 0))]) H := hP
  exact mx_ret (es1 := [.inr (4, [.ref (n + 1), .int 0, .int 0, .int 0, .int 0, .int 0, .int 0]), .inl (w.2.1 1, 12, .inl (fun _ => 0))]) hx hb hr hlk K hP hS dX4_init_12
theorem wy_X5_init : Cond.instanceMethod yX5_init ∈ mc_big ∧ Cond.initialized yX5_init.cls ∈ mc_big ∧ Cond.code yX5_init cX5_init 2 none ∈ mc_big := ⟨wi_X5_init, wn_X5, wc_X5_init⟩
theorem wd_X5_init : yX5_init.name = "<init>" ∧ yX5_init.cls ≠ "java/lang/invoke/MethodHandle" ∧ yX5_init.cls ≠ "java/lang/invoke/VarHandle" ∧ (parseMethodDescriptor yX5_init.desc).map (fun d => d.parameters.length) = some 0 := ⟨rfl, by decide +kernel, by decide +kernel, by decide +kernel⟩
set_option maxHeartbeats 4000000 in
set_option maxRecDepth 100000 in
theorem ct_X5_init (l : Launch) {w : mc_w} (n : Nat) : Met l yX5_init (Cond.code yX5_init cX5_init 2 none :: mc_big) ({ frames := 2, cells := 17, slots := 164, locals := 41 } : Room) (va_Pc [.ref n] (mx_B w n [.inr (5, [.null, .null, .null, .null, .int 0, .int 0, .int 0, .int 0])])) (mc_Q none (mx_B w n (mx_st w n)) (fun q => n ≤ q)) 17 164 (fun q => n ≤ q) := by
  refine Met.ofW (cc := cX5_init) (maxL := 2) (ret := none) (by decide) rfl ?_
  intro p e s m args below meth c s₁ B hml hv
  obtain ⟨rfl, hP, K⟩ := hv
  have hown : s.vm.findClass RX5 = some m.cls := findClass_of_methodNamed B.named
  have C : CallFix p m c cX5_init 2 s _ mc_big RX5 := ⟨B.exec, B.bytes, hml, hown, fun w hw => atoms_spec B.pre w (List.mem_cons_of_mem _ hw)⟩
  have hx := C.1
  have hb := C.2.1
  have hr := B.returns
  have hlk := B.notSynchronized
  have hin : meth.name = "<init>" := (name_of_methodNamed B.named B.method).1
  have hS : va_S (fun q => n ≤ q) s.heap s.heap [] := va_S.rf
  have hl := lv_entry ([.ref (n + 0)]) (n := 2) (Nat.le_of_ble_eq_true rfl)
  show W p l e _ s m _ below meth c s.heap [] 0 0 _ (entryFrame m ([.ref (n + 0)] : List Value).toArray 2)
  rw [lg_entry_eq]
  generalize (lg_sl ([.ref (n + 0)]) ++ List.replicate (2 - (lg_sl ([.ref (n + 0)])).length) Slot.unset).toArray = ls at hl ⊢
  have hl : lv_has ls 2 [(0, .ref (n + 0))] := hl
  have hP : mx_P w n ([.inr (5, [.null, .null, .null, .null, .int 0, .int 0, .int 0, .int 0])]) s.heap := hP
  refine lv_aload_n hx hb dX5_init_0 rfl (lv_at hl 0 rfl) ?_
  refine mx_obj C hl.1 ml_X5_3 (Nat.le_of_ble_eq_true rfl) (Nat.le_of_ble_eq_true rfl) dX5_init_1 ?_
  refine lv_aload_n hx hb dX5_init_4 rfl (lv_at hl 0 rfl) ?_
  refine mx_new (ci := 1) (Cn := RX1) (T := TX1) (N0 := 3) (ty := tyX1) (fs := [.int 0, .int 0, .int 0]) C K hP hS mc_in1 tyX1_ok rfl cl_X5_9 wb_X1 wn_X1 (fun j hj => by rcases (show j = 0 ∨ j = 1 ∨ j = 2 by omega) with rfl | rfl | rfl <;> rfl) (Nat.le_of_ble_eq_true rfl) (Nat.le_of_ble_eq_true rfl) dX5_init_5 (fun H hP hS => ?_)
  have hP : mx_P w n ([.inr (5, [.null, .null, .null, .null, .int 0, .int 0, .int 0, .int 0])] ++ [.inr (1, [.int 0, .int 0, .int 0])]) H := hP
  refine W.widen (k := 1) (n := 3) (Nat.le_of_ble_eq_true rfl) (Nat.le_of_ble_eq_true rfl) ?_
  refine lv_dup hx hb dX5_init_8 rfl ?_
  refine mx_IN (es := [.inr (5, [.null, .null, .null, .null, .int 0, .int 0, .int 0, .int 0])]) (ct_X1_init l (w := w) (n + 1)) C K hP hS hl.1 K.2.1.1 wy_X1_init wd_X1_init rfl rfl rfl ⟨Nat.le_of_ble_eq_true rfl, Nat.le_of_ble_eq_true rfl⟩ (Nat.le_of_ble_eq_true rfl) ⟨Nat.le_of_ble_eq_true rfl, Nat.le_of_ble_eq_true rfl⟩ dX5_init_9 (fun H locs hP hS => ?_)
  have hP : mx_P w n ([.inr (5, [.null, .null, .null, .null, .int 0, .int 0, .int 0, .int 0]), .inr (1, [.int 0, .int 0, .int 0])]) H := hP
  refine W.widen (k := 1) (n := 3) (Nat.le_of_ble_eq_true rfl) (Nat.le_of_ble_eq_true rfl) ?_
  refine mx_putF (k := 0) (ci := 5) (Cn := RX5) (T := TX5) (N0 := 8) (ty0 := tyX5) (ty := (.object "MessengerCasts$Cable")) (j := 0) C K hP hS hin rfl mc_in5 tyX5_ok nmX5 rfl (by decide) fl_X5_12 rfl rfl rfl (by decide +kernel) rfl rfl (Nat.le_of_ble_eq_true rfl) dX5_init_12 (fun H locs hP hS => ?_)
  have hP : mx_P w n ([.inr (5, [.ref (n + 1), .null, .null, .null, .int 0, .int 0, .int 0, .int 0]), .inr (1, [.int 0, .int 0, .int 0])]) H := hP
  refine lv_aload_n hx hb dX5_init_15 rfl (lv_at hl 0 rfl) ?_
  refine mx_new (ci := 7) (Cn := RX7) (T := TX7) (N0 := 2) (ty := tyX7) (fs := [.null, .null]) C K hP hS mc_in7 tyX7_ok rfl cl_X5_18 wb_X7 wn_X7 (fun j hj => by rcases (show j = 0 ∨ j = 1 by omega) with rfl | rfl <;> rfl) (Nat.le_of_ble_eq_true rfl) (Nat.le_of_ble_eq_true rfl) dX5_init_16 (fun H hP hS => ?_)
  have hP : mx_P w n ([.inr (5, [.ref (n + 1), .null, .null, .null, .int 0, .int 0, .int 0, .int 0]), .inr (1, [.int 0, .int 0, .int 0])] ++ [.inr (7, [.null, .null])]) H := hP
  refine W.widen (k := 2) (n := 5) (Nat.le_of_ble_eq_true rfl) (Nat.le_of_ble_eq_true rfl) ?_
  refine lv_dup hx hb dX5_init_19 rfl ?_
  refine mx_I (es := [.inr (5, [.ref (n + 1), .null, .null, .null, .int 0, .int 0, .int 0, .int 0]), .inr (1, [.int 0, .int 0, .int 0])]) (ct_X7_init l (w := w) (n + 2)) C K hP hS hl.1 ml_X5_20 wy_X7_init wd_X7_init rfl rfl rfl ⟨Nat.le_of_ble_eq_true rfl, Nat.le_of_ble_eq_true rfl⟩ (Nat.le_of_ble_eq_true rfl) ⟨Nat.le_of_ble_eq_true rfl, Nat.le_of_ble_eq_true rfl⟩ dX5_init_20 (fun H locs hP hS => ?_)
  have hP : mx_P w n ([.inr (5, [.ref (n + 1), .null, .null, .null, .int 0, .int 0, .int 0, .int 0]), .inr (1, [.int 0, .int 0, .int 0]), .inr (7, [.ref (n + 3), .ref (n + 4)]), .inl (w.2.1 1, 10, .inl mx_w0), .inl (w.2.1 1, 10, .inl mx_s0)]) H := hP
  refine W.widen (k := 4) (n := 25) (Nat.le_of_ble_eq_true rfl) (Nat.le_of_ble_eq_true rfl) ?_
  refine mx_putF (k := 0) (ci := 5) (Cn := RX5) (T := TX5) (N0 := 8) (ty0 := tyX5) (ty := (.object "MessengerCasts$Water")) (j := 1) C K hP hS hin rfl mc_in5 tyX5_ok nmX5 rfl (by decide) fl_X5_21 rfl rfl rfl (by decide +kernel) rfl rfl (Nat.le_of_ble_eq_true rfl) dX5_init_23 (fun H locs hP hS => ?_)
  have hP : mx_P w n ([.inr (5, [.ref (n + 1), .ref (n + 2), .null, .null, .int 0, .int 0, .int 0, .int 0]), .inr (1, [.int 0, .int 0, .int 0]), .inr (7, [.ref (n + 3), .ref (n + 4)]), .inl (w.2.1 1, 10, .inl mx_w0), .inl (w.2.1 1, 10, .inl mx_s0)]) H := hP
  refine lv_aload_n hx hb dX5_init_26 rfl (lv_at hl 0 rfl) ?_
  refine mx_new (ci := 4) (Cn := RX4) (T := TX4) (N0 := 7) (ty := tyX4) (fs := [.null, .int 0, .int 0, .int 0, .int 0, .int 0, .int 0]) C K hP hS mc_in4 tyX4_ok rfl cl_X5_25 wb_X4 wn_X4 (fun j hj => by rcases (show j = 0 ∨ j = 1 ∨ j = 2 ∨ j = 3 ∨ j = 4 ∨ j = 5 ∨ j = 6 by omega) with rfl | rfl | rfl | rfl | rfl | rfl | rfl <;> rfl) (Nat.le_of_ble_eq_true rfl) (Nat.le_of_ble_eq_true rfl) dX5_init_27 (fun H hP hS => ?_)
  have hP : mx_P w n ([.inr (5, [.ref (n + 1), .ref (n + 2), .null, .null, .int 0, .int 0, .int 0, .int 0]), .inr (1, [.int 0, .int 0, .int 0]), .inr (7, [.ref (n + 3), .ref (n + 4)]), .inl (w.2.1 1, 10, .inl mx_w0), .inl (w.2.1 1, 10, .inl mx_s0)] ++ [.inr (4, [.null, .int 0, .int 0, .int 0, .int 0, .int 0, .int 0])]) H := hP
  refine W.widen (k := 5) (n := 32) (Nat.le_of_ble_eq_true rfl) (Nat.le_of_ble_eq_true rfl) ?_
  refine lv_dup hx hb dX5_init_30 rfl ?_
  refine mx_IN (es := [.inr (5, [.ref (n + 1), .ref (n + 2), .null, .null, .int 0, .int 0, .int 0, .int 0]), .inr (1, [.int 0, .int 0, .int 0]), .inr (7, [.ref (n + 3), .ref (n + 4)]), .inl (w.2.1 1, 10, .inl mx_w0), .inl (w.2.1 1, 10, .inl mx_s0)]) (ct_X4_init l (w := w) (n + 5)) C K hP hS hl.1 K.2.1.2.1 wy_X4_init wd_X4_init rfl rfl rfl ⟨Nat.le_of_ble_eq_true rfl, Nat.le_of_ble_eq_true rfl⟩ (Nat.le_of_ble_eq_true rfl) ⟨Nat.le_of_ble_eq_true rfl, Nat.le_of_ble_eq_true rfl⟩ dX5_init_31 (fun H locs hP hS => ?_)
  have hP : mx_P w n ([.inr (5, [.ref (n + 1), .ref (n + 2), .null, .null, .int 0, .int 0, .int 0, .int 0]), .inr (1, [.int 0, .int 0, .int 0]), .inr (7, [.ref (n + 3), .ref (n + 4)]), .inl (w.2.1 1, 10, .inl mx_w0), .inl (w.2.1 1, 10, .inl mx_s0), .inr (4, [.ref (n + 6), .int 0, .int 0, .int 0, .int 0, .int 0, .int 0]), .inl (w.2.1 1, 12, .inl (fun _ => 0))]) H := hP
  refine W.widen (k := 6) (n := 44) (Nat.le_of_ble_eq_true rfl) (Nat.le_of_ble_eq_true rfl) ?_
  refine mx_putF (k := 0) (ci := 5) (Cn := RX5) (T := TX5) (N0 := 8) (ty0 := tyX5) (ty := (.object "MessengerCasts$Messengers")) (j := 2) C K hP hS hin rfl mc_in5 tyX5_ok nmX5 rfl (by decide) fl_X5_28 rfl rfl rfl (by decide +kernel) rfl rfl (Nat.le_of_ble_eq_true rfl) dX5_init_34 (fun H locs hP hS => ?_)
  have hP : mx_P w n ([.inr (5, [.ref (n + 1), .ref (n + 2), .ref (n + 5), .null, .int 0, .int 0, .int 0, .int 0]), .inr (1, [.int 0, .int 0, .int 0]), .inr (7, [.ref (n + 3), .ref (n + 4)]), .inl (w.2.1 1, 10, .inl mx_w0), .inl (w.2.1 1, 10, .inl mx_s0), .inr (4, [.ref (n + 6), .int 0, .int 0, .int 0, .int 0, .int 0, .int 0]), .inl (w.2.1 1, 12, .inl (fun _ => 0))]) H := hP
  refine lv_aload_n hx hb dX5_init_37 rfl (lv_at hl 0 rfl) ?_
  refine lv_bipush (v := 10) hx hb dX5_init_38 (by decide) ?_
  refine mx_newq (t0 := 2) (cA := w.2.1 2) (Z := 10) C K hP hS K.2.2.1 rfl cl_X5_32 (by decide) (by decide) (Nat.le_of_ble_eq_true rfl) (Nat.le_of_ble_eq_true rfl) (Nat.le_of_ble_eq_true rfl) dX5_init_40 (fun H hP hS => ?_)
  have hP : mx_P w n ([.inr (5, [.ref (n + 1), .ref (n + 2), .ref (n + 5), .null, .int 0, .int 0, .int 0, .int 0]), .inr (1, [.int 0, .int 0, .int 0]), .inr (7, [.ref (n + 3), .ref (n + 4)]), .inl (w.2.1 1, 10, .inl mx_w0), .inl (w.2.1 1, 10, .inl mx_s0), .inr (4, [.ref (n + 6), .int 0, .int 0, .int 0, .int 0, .int 0, .int 0]), .inl (w.2.1 1, 12, .inl (fun _ => 0)), .inl (w.2.1 2, 10, .inr (.inr (.inr (.inr (fun _ => none)))))]) H := hP
  refine W.widen (k := 7) (n := 54) (Nat.le_of_ble_eq_true rfl) (Nat.le_of_ble_eq_true rfl) ?_
  refine mx_putF (k := 0) (ci := 5) (Cn := RX5) (T := TX5) (N0 := 8) (ty0 := tyX5) (ty := (.array (.object "MessengerCasts$Bottle"))) (j := 3) C K hP hS hin rfl mc_in5 tyX5_ok nmX5 rfl (by decide) fl_X5_34 rfl rfl rfl (by decide +kernel) rfl rfl (Nat.le_of_ble_eq_true rfl) dX5_init_43 (fun H locs hP hS => ?_)
  have hP : mx_P w n ([.inr (5, [.ref (n + 1), .ref (n + 2), .ref (n + 5), .ref (n + 7), .int 0, .int 0, .int 0, .int 0]), .inr (1, [.int 0, .int 0, .int 0]), .inr (7, [.ref (n + 3), .ref (n + 4)]), .inl (w.2.1 1, 10, .inl mx_w0), .inl (w.2.1 1, 10, .inl mx_s0), .inr (4, [.ref (n + 6), .int 0, .int 0, .int 0, .int 0, .int 0, .int 0]), .inl (w.2.1 1, 12, .inl (fun _ => 0)), .inl (w.2.1 2, 10, .inr (.inr (.inr (.inr (fun _ => none)))))]) H := hP
  refine lv_aload_n hx hb dX5_init_46 rfl (lv_at hl 0 rfl) ?_
  refine lv_bipush (v := 20) hx hb dX5_init_47 (by decide) ?_
  refine mx_putA (k := 0) (ci := 5) (Cn := RX5) (T := TX5) (N0 := 8) (ty0 := tyX5) (ty := .int) (j := 6) C K hP hS rfl mc_in5 tyX5_ok nmX5 rfl (by decide) fl_X5_38 rfl rfl (by decide +kernel) rfl rfl (Nat.le_of_ble_eq_true rfl) dX5_init_49 (fun H locs hP hS => ?_)
  have hP : mx_P w n ([.inr (5, [.ref (n + 1), .ref (n + 2), .ref (n + 5), .ref (n + 7), .int 0, .int 0, .int 20, .int 0]), .inr (1, [.int 0, .int 0, .int 0]), .inr (7, [.ref (n + 3), .ref (n + 4)]), .inl (w.2.1 1, 10, .inl mx_w0), .inl (w.2.1 1, 10, .inl mx_s0), .inr (4, [.ref (n + 6), .int 0, .int 0, .int 0, .int 0, .int 0, .int 0]), .inl (w.2.1 1, 12, .inl (fun _ => 0)), .inl (w.2.1 2, 10, .inr (.inr (.inr (.inr (fun _ => none)))))]) H := hP
  refine lv_aload_n hx hb dX5_init_52 rfl (lv_at hl 0 rfl) ?_
  refine lv_sipush (v := 200) hx hb dX5_init_53 (by decide) ?_
  refine mx_putA (k := 0) (ci := 5) (Cn := RX5) (T := TX5) (N0 := 8) (ty0 := tyX5) (ty := .int) (j := 7) C K hP hS rfl mc_in5 tyX5_ok nmX5 rfl (by decide) fl_X5_42 rfl rfl (by decide +kernel) rfl rfl (Nat.le_of_ble_eq_true rfl) dX5_init_56 (fun H locs hP hS => ?_)
  have hP : mx_P w n ([.inr (5, [.ref (n + 1), .ref (n + 2), .ref (n + 5), .ref (n + 7), .int 0, .int 0, .int 20, .int 200]), .inr (1, [.int 0, .int 0, .int 0]), .inr (7, [.ref (n + 3), .ref (n + 4)]), .inl (w.2.1 1, 10, .inl mx_w0), .inl (w.2.1 1, 10, .inl mx_s0), .inr (4, [.ref (n + 6), .int 0, .int 0, .int 0, .int 0, .int 0, .int 0]), .inl (w.2.1 1, 12, .inl (fun _ => 0)), .inl (w.2.1 2, 10, .inr (.inr (.inr (.inr (fun _ => none)))))]) H := hP
  refine lv_iconst (v := 0) hx hb dX5_init_59 (by decide) ?_
  refine lv_istore_n (lv' := [(1, .int 0), (0, .ref (n + 0))]) hx hb dX5_init_60 rfl hl (by decide) rfl (fun ls hl => ?_)
  refine lv_iload_n hx hb dX5_init_61 rfl (lv_at hl 0 rfl) ?_
  refine lv_bipush (v := 10) hx hb dX5_init_62 (by decide) ?_
  refine lv_icmp_ge (tgt := 86) hx hb dX5_init_64 (by decide) (fun c => absurd c (by decide)) (fun _ => ?_)
  refine lv_aload_n hx hb dX5_init_67 rfl (lv_at hl 1 rfl) ?_
  refine mx_get (k := 0) (ci := 5) (Cn := RX5) (T := TX5) (N0 := 8) (j := 3) (v := .ref (n + 7)) C K hP rfl mc_in5 rfl (by decide) fl_X5_34 rfl rfl dX5_init_68 ?_
  refine lv_iload_n hx hb dX5_init_71 rfl (lv_at hl 0 rfl) ?_
  refine mx_new (ci := 0) (Cn := RX0) (T := TX0) (N0 := 11) (ty := tyX0) (fs := [.int 0, .int 0, .int 0, .int 0, .int 0, .int 0, .int 0, .int 0, .int 0, .int 0, .int 0]) C K hP hS mc_in0 tyX0_ok rfl cl_X5_32 wb_X0 wn_X0 (fun j hj => by rcases (show j = 0 ∨ j = 1 ∨ j = 2 ∨ j = 3 ∨ j = 4 ∨ j = 5 ∨ j = 6 ∨ j = 7 ∨ j = 8 ∨ j = 9 ∨ j = 10 by omega) with rfl | rfl | rfl | rfl | rfl | rfl | rfl | rfl | rfl | rfl | rfl <;> rfl) (Nat.le_of_ble_eq_true rfl) (Nat.le_of_ble_eq_true rfl) dX5_init_72 (fun H hP hS => ?_)
  have hP : mx_P w n ([.inr (5, [.ref (n + 1), .ref (n + 2), .ref (n + 5), .ref (n + 7), .int 0, .int 0, .int 20, .int 200]), .inr (1, [.int 0, .int 0, .int 0]), .inr (7, [.ref (n + 3), .ref (n + 4)]), .inl (w.2.1 1, 10, .inl mx_w0), .inl (w.2.1 1, 10, .inl mx_s0), .inr (4, [.ref (n + 6), .int 0, .int 0, .int 0, .int 0, .int 0, .int 0]), .inl (w.2.1 1, 12, .inl (fun _ => 0)), .inl (w.2.1 2, 10, .inr (.inr (.inr (.inr (fun _ => none)))))] ++ [.inr (0, [.int 0, .int 0, .int 0, .int 0, .int 0, .int 0, .int 0, .int 0, .int 0, .int 0, .int 0])]) H := hP
  refine W.widen (k := 8) (n := 65) (Nat.le_of_ble_eq_true rfl) (Nat.le_of_ble_eq_true rfl) ?_
  refine lv_dup hx hb dX5_init_75 rfl ?_
  refine mx_IN (es := [.inr (5, [.ref (n + 1), .ref (n + 2), .ref (n + 5), .ref (n + 7), .int 0, .int 0, .int 20, .int 200]), .inr (1, [.int 0, .int 0, .int 0]), .inr (7, [.ref (n + 3), .ref (n + 4)]), .inl (w.2.1 1, 10, .inl mx_w0), .inl (w.2.1 1, 10, .inl mx_s0), .inr (4, [.ref (n + 6), .int 0, .int 0, .int 0, .int 0, .int 0, .int 0]), .inl (w.2.1 1, 12, .inl (fun _ => 0)), .inl (w.2.1 2, 10, .inr (.inr (.inr (.inr (fun _ => none)))))]) (ct_X0_init l (w := w) (n + 8)) C K hP hS hl.1 K.2.1.2.2.1 wy_X0_init wd_X0_init rfl rfl rfl ⟨Nat.le_of_ble_eq_true rfl, Nat.le_of_ble_eq_true rfl⟩ (Nat.le_of_ble_eq_true rfl) ⟨Nat.le_of_ble_eq_true rfl, Nat.le_of_ble_eq_true rfl⟩ dX5_init_76 (fun H locs hP hS => ?_)
  have hP : mx_P w n ([.inr (5, [.ref (n + 1), .ref (n + 2), .ref (n + 5), .ref (n + 7), .int 0, .int 0, .int 20, .int 200]), .inr (1, [.int 0, .int 0, .int 0]), .inr (7, [.ref (n + 3), .ref (n + 4)]), .inl (w.2.1 1, 10, .inl mx_w0), .inl (w.2.1 1, 10, .inl mx_s0), .inr (4, [.ref (n + 6), .int 0, .int 0, .int 0, .int 0, .int 0, .int 0]), .inl (w.2.1 1, 12, .inl (fun _ => 0)), .inl (w.2.1 2, 10, .inr (.inr (.inr (.inr (fun _ => none))))), .inr (0, [.int 0, .int 0, .int 0, .int 0, .int 0, .int 0, .int 0, .int 0, .int 0, .int 0, .int 0])]) H := hP
  refine W.widen (k := 8) (n := 65) (Nat.le_of_ble_eq_true rfl) (Nat.le_of_ble_eq_true rfl) ?_
  refine mx_aas (k := 7) (k2 := 8) (t0 := 2) (ci := 0) (Z := 10) (r := (RX0, TX0, 11)) (f1 := (va_up (fun _ => none) 0 (some (n + 8)))) C K hP hS rfl rfl rfl rfl (by decide) rfl (by decide) dX5_init_79 (fun H locs hP hS => ?_)
  have hP : mx_P w n ([.inr (5, [.ref (n + 1), .ref (n + 2), .ref (n + 5), .ref (n + 7), .int 0, .int 0, .int 20, .int 200]), .inr (1, [.int 0, .int 0, .int 0]), .inr (7, [.ref (n + 3), .ref (n + 4)]), .inl (w.2.1 1, 10, .inl mx_w0), .inl (w.2.1 1, 10, .inl mx_s0), .inr (4, [.ref (n + 6), .int 0, .int 0, .int 0, .int 0, .int 0, .int 0]), .inl (w.2.1 1, 12, .inl (fun _ => 0)), .inl (w.2.1 2, 10, .inr (.inr (.inr (.inr (va_up (fun _ => none) 0 (some (n + 8))))))), .inr (0, [.int 0, .int 0, .int 0, .int 0, .int 0, .int 0, .int 0, .int 0, .int 0, .int 0, .int 0])]) H := hP
  refine lv_iinc (v := 1) (lv' := [(1, .int 1), (0, .ref (n + 0))]) hx hb dX5_init_80 hl (k := 0) rfl (by decide) (by decide) rfl (fun ls hl => ?_)
  refine lv_goto (tgt := 61) hx hb dX5_init_83 (by decide) ?_
  refine lv_iload_n hx hb dX5_init_61 rfl (lv_at hl 0 rfl) ?_
  refine lv_bipush (v := 10) hx hb dX5_init_62 (by decide) ?_
  refine lv_icmp_ge (tgt := 86) hx hb dX5_init_64 (by decide) (fun c => absurd c (by decide)) (fun _ => ?_)
  refine lv_aload_n hx hb dX5_init_67 rfl (lv_at hl 1 rfl) ?_
  refine mx_get (k := 0) (ci := 5) (Cn := RX5) (T := TX5) (N0 := 8) (j := 3) (v := .ref (n + 7)) C K hP rfl mc_in5 rfl (by decide) fl_X5_34 rfl rfl dX5_init_68 ?_
  refine lv_iload_n hx hb dX5_init_71 rfl (lv_at hl 0 rfl) ?_
  refine mx_new (ci := 0) (Cn := RX0) (T := TX0) (N0 := 11) (ty := tyX0) (fs := [.int 0, .int 0, .int 0, .int 0, .int 0, .int 0, .int 0, .int 0, .int 0, .int 0, .int 0]) C K hP hS mc_in0 tyX0_ok rfl cl_X5_32 wb_X0 wn_X0 (fun j hj => by rcases (show j = 0 ∨ j = 1 ∨ j = 2 ∨ j = 3 ∨ j = 4 ∨ j = 5 ∨ j = 6 ∨ j = 7 ∨ j = 8 ∨ j = 9 ∨ j = 10 by omega) with rfl | rfl | rfl | rfl | rfl | rfl | rfl | rfl | rfl | rfl | rfl <;> rfl) (Nat.le_of_ble_eq_true rfl) (Nat.le_of_ble_eq_true rfl) dX5_init_72 (fun H hP hS => ?_)
  have hP : mx_P w n ([.inr (5, [.ref (n + 1), .ref (n + 2), .ref (n + 5), .ref (n + 7), .int 0, .int 0, .int 20, .int 200]), .inr (1, [.int 0, .int 0, .int 0]), .inr (7, [.ref (n + 3), .ref (n + 4)]), .inl (w.2.1 1, 10, .inl mx_w0), .inl (w.2.1 1, 10, .inl mx_s0), .inr (4, [.ref (n + 6), .int 0, .int 0, .int 0, .int 0, .int 0, .int 0]), .inl (w.2.1 1, 12, .inl (fun _ => 0)), .inl (w.2.1 2, 10, .inr (.inr (.inr (.inr (va_up (fun _ => none) 0 (some (n + 8))))))), .inr (0, [.int 0, .int 0, .int 0, .int 0, .int 0, .int 0, .int 0, .int 0, .int 0, .int 0, .int 0])] ++ [.inr (0, [.int 0, .int 0, .int 0, .int 0, .int 0, .int 0, .int 0, .int 0, .int 0, .int 0, .int 0])]) H := hP
  refine W.widen (k := 9) (n := 76) (Nat.le_of_ble_eq_true rfl) (Nat.le_of_ble_eq_true rfl) ?_
  refine lv_dup hx hb dX5_init_75 rfl ?_
  refine mx_IN (es := [.inr (5, [.ref (n + 1), .ref (n + 2), .ref (n + 5), .ref (n + 7), .int 0, .int 0, .int 20, .int 200]), .inr (1, [.int 0, .int 0, .int 0]), .inr (7, [.ref (n + 3), .ref (n + 4)]), .inl (w.2.1 1, 10, .inl mx_w0), .inl (w.2.1 1, 10, .inl mx_s0), .inr (4, [.ref (n + 6), .int 0, .int 0, .int 0, .int 0, .int 0, .int 0]), .inl (w.2.1 1, 12, .inl (fun _ => 0)), .inl (w.2.1 2, 10, .inr (.inr (.inr (.inr (va_up (fun _ => none) 0 (some (n + 8))))))), .inr (0, [.int 0, .int 0, .int 0, .int 0, .int 0, .int 0, .int 0, .int 0, .int 0, .int 0, .int 0])]) (ct_X0_init l (w := w) (n + 9)) C K hP hS hl.1 K.2.1.2.2.1 wy_X0_init wd_X0_init rfl rfl rfl ⟨Nat.le_of_ble_eq_true rfl, Nat.le_of_ble_eq_true rfl⟩ (Nat.le_of_ble_eq_true rfl) ⟨Nat.le_of_ble_eq_true rfl, Nat.le_of_ble_eq_true rfl⟩ dX5_init_76 (fun H locs hP hS => ?_)
  have hP : mx_P w n ([.inr (5, [.ref (n + 1), .ref (n + 2), .ref (n + 5), .ref (n + 7), .int 0, .int 0, .int 20, .int 200]), .inr (1, [.int 0, .int 0, .int 0]), .inr (7, [.ref (n + 3), .ref (n + 4)]), .inl (w.2.1 1, 10, .inl mx_w0), .inl (w.2.1 1, 10, .inl mx_s0), .inr (4, [.ref (n + 6), .int 0, .int 0, .int 0, .int 0, .int 0, .int 0]), .inl (w.2.1 1, 12, .inl (fun _ => 0)), .inl (w.2.1 2, 10, .inr (.inr (.inr (.inr (va_up (fun _ => none) 0 (some (n + 8))))))), .inr (0, [.int 0, .int 0, .int 0, .int 0, .int 0, .int 0, .int 0, .int 0, .int 0, .int 0, .int 0]), .inr (0, [.int 0, .int 0, .int 0, .int 0, .int 0, .int 0, .int 0, .int 0, .int 0, .int 0, .int 0])]) H := hP
  refine W.widen (k := 9) (n := 76) (Nat.le_of_ble_eq_true rfl) (Nat.le_of_ble_eq_true rfl) ?_
  refine mx_aas (k := 7) (k2 := 9) (t0 := 2) (ci := 0) (Z := 10) (r := (RX0, TX0, 11)) (f1 := (va_up (va_up (fun _ => none) 0 (some (n + 8))) 1 (some (n + 9)))) C K hP hS rfl rfl rfl rfl (by decide) rfl (by decide) dX5_init_79 (fun H locs hP hS => ?_)
  have hP : mx_P w n ([.inr (5, [.ref (n + 1), .ref (n + 2), .ref (n + 5), .ref (n + 7), .int 0, .int 0, .int 20, .int 200]), .inr (1, [.int 0, .int 0, .int 0]), .inr (7, [.ref (n + 3), .ref (n + 4)]), .inl (w.2.1 1, 10, .inl mx_w0), .inl (w.2.1 1, 10, .inl mx_s0), .inr (4, [.ref (n + 6), .int 0, .int 0, .int 0, .int 0, .int 0, .int 0]), .inl (w.2.1 1, 12, .inl (fun _ => 0)), .inl (w.2.1 2, 10, .inr (.inr (.inr (.inr (va_up (va_up (fun _ => none) 0 (some (n + 8))) 1 (some (n + 9))))))), .inr (0, [.int 0, .int 0, .int 0, .int 0, .int 0, .int 0, .int 0, .int 0, .int 0, .int 0, .int 0]), .inr (0, [.int 0, .int 0, .int 0, .int 0, .int 0, .int 0, .int 0, .int 0, .int 0, .int 0, .int 0])]) H := hP
  refine lv_iinc (v := 2) (lv' := [(1, .int 2), (0, .ref (n + 0))]) hx hb dX5_init_80 hl (k := 0) rfl (by decide) (by decide) rfl (fun ls hl => ?_)
  refine lv_goto (tgt := 61) hx hb dX5_init_83 (by decide) ?_
  refine lv_iload_n hx hb dX5_init_61 rfl (lv_at hl 0 rfl) ?_
  refine lv_bipush (v := 10) hx hb dX5_init_62 (by decide) ?_
  refine lv_icmp_ge (tgt := 86) hx hb dX5_init_64 (by decide) (fun c => absurd c (by decide)) (fun _ => ?_)
  refine lv_aload_n hx hb dX5_init_67 rfl (lv_at hl 1 rfl) ?_
  refine mx_get (k := 0) (ci := 5) (Cn := RX5) (T := TX5) (N0 := 8) (j := 3) (v := .ref (n + 7)) C K hP rfl mc_in5 rfl (by decide) fl_X5_34 rfl rfl dX5_init_68 ?_
  refine lv_iload_n hx hb dX5_init_71 rfl (lv_at hl 0 rfl) ?_
  refine mx_new (ci := 0) (Cn := RX0) (T := TX0) (N0 := 11) (ty := tyX0) (fs := [.int 0, .int 0, .int 0, .int 0, .int 0, .int 0, .int 0, .int 0, .int 0, .int 0, .int 0]) C K hP hS mc_in0 tyX0_ok rfl cl_X5_32 wb_X0 wn_X0 (fun j hj => by rcases (show j = 0 ∨ j = 1 ∨ j = 2 ∨ j = 3 ∨ j = 4 ∨ j = 5 ∨ j = 6 ∨ j = 7 ∨ j = 8 ∨ j = 9 ∨ j = 10 by omega) with rfl | rfl | rfl | rfl | rfl | rfl | rfl | rfl | rfl | rfl | rfl <;> rfl) (Nat.le_of_ble_eq_true rfl) (Nat.le_of_ble_eq_true rfl) dX5_init_72 (fun H hP hS => ?_)
  have hP : mx_P w n ([.inr (5, [.ref (n + 1), .ref (n + 2), .ref (n + 5), .ref (n + 7), .int 0, .int 0, .int 20, .int 200]), .inr (1, [.int 0, .int 0, .int 0]), .inr (7, [.ref (n + 3), .ref (n + 4)]), .inl (w.2.1 1, 10, .inl mx_w0), .inl (w.2.1 1, 10, .inl mx_s0), .inr (4, [.ref (n + 6), .int 0, .int 0, .int 0, .int 0, .int 0, .int 0]), .inl (w.2.1 1, 12, .inl (fun _ => 0)), .inl (w.2.1 2, 10, .inr (.inr (.inr (.inr (va_up (va_up (fun _ => none) 0 (some (n + 8))) 1 (some (n + 9))))))), .inr (0, [.int 0, .int 0, .int 0, .int 0, .int 0, .int 0, .int 0, .int 0, .int 0, .int 0, .int 0]), .inr (0, [.int 0, .int 0, .int 0, .int 0, .int 0, .int 0, .int 0, .int 0, .int 0, .int 0, .int 0])] ++ [.inr (0, [.int 0, .int 0, .int 0, .int 0, .int 0, .int 0, .int 0, .int 0, .int 0, .int 0, .int 0])]) H := hP
  refine W.widen (k := 10) (n := 87) (Nat.le_of_ble_eq_true rfl) (Nat.le_of_ble_eq_true rfl) ?_
  refine lv_dup hx hb dX5_init_75 rfl ?_
  refine mx_IN (es := [.inr (5, [.ref (n + 1), .ref (n + 2), .ref (n + 5), .ref (n + 7), .int 0, .int 0, .int 20, .int 200]), .inr (1, [.int 0, .int 0, .int 0]), .inr (7, [.ref (n + 3), .ref (n + 4)]), .inl (w.2.1 1, 10, .inl mx_w0), .inl (w.2.1 1, 10, .inl mx_s0), .inr (4, [.ref (n + 6), .int 0, .int 0, .int 0, .int 0, .int 0, .int 0]), .inl (w.2.1 1, 12, .inl (fun _ => 0)), .inl (w.2.1 2, 10, .inr (.inr (.inr (.inr (va_up (va_up (fun _ => none) 0 (some (n + 8))) 1 (some (n + 9))))))), .inr (0, [.int 0, .int 0, .int 0, .int 0, .int 0, .int 0, .int 0, .int 0, .int 0, .int 0, .int 0]), .inr (0, [.int 0, .int 0, .int 0, .int 0, .int 0, .int 0, .int 0, .int 0, .int 0, .int 0, .int 0])]) (ct_X0_init l (w := w) (n + 10)) C K hP hS hl.1 K.2.1.2.2.1 wy_X0_init wd_X0_init rfl rfl rfl ⟨Nat.le_of_ble_eq_true rfl, Nat.le_of_ble_eq_true rfl⟩ (Nat.le_of_ble_eq_true rfl) ⟨Nat.le_of_ble_eq_true rfl, Nat.le_of_ble_eq_true rfl⟩ dX5_init_76 (fun H locs hP hS => ?_)
  have hP : mx_P w n ([.inr (5, [.ref (n + 1), .ref (n + 2), .ref (n + 5), .ref (n + 7), .int 0, .int 0, .int 20, .int 200]), .inr (1, [.int 0, .int 0, .int 0]), .inr (7, [.ref (n + 3), .ref (n + 4)]), .inl (w.2.1 1, 10, .inl mx_w0), .inl (w.2.1 1, 10, .inl mx_s0), .inr (4, [.ref (n + 6), .int 0, .int 0, .int 0, .int 0, .int 0, .int 0]), .inl (w.2.1 1, 12, .inl (fun _ => 0)), .inl (w.2.1 2, 10, .inr (.inr (.inr (.inr (va_up (va_up (fun _ => none) 0 (some (n + 8))) 1 (some (n + 9))))))), .inr (0, [.int 0, .int 0, .int 0, .int 0, .int 0, .int 0, .int 0, .int 0, .int 0, .int 0, .int 0]), .inr (0, [.int 0, .int 0, .int 0, .int 0, .int 0, .int 0, .int 0, .int 0, .int 0, .int 0, .int 0]), .inr (0, [.int 0, .int 0, .int 0, .int 0, .int 0, .int 0, .int 0, .int 0, .int 0, .int 0, .int 0])]) H := hP
  refine W.widen (k := 10) (n := 87) (Nat.le_of_ble_eq_true rfl) (Nat.le_of_ble_eq_true rfl) ?_
  refine mx_aas (k := 7) (k2 := 10) (t0 := 2) (ci := 0) (Z := 10) (r := (RX0, TX0, 11)) (f1 := (va_up (va_up (va_up (fun _ => none) 0 (some (n + 8))) 1 (some (n + 9))) 2 (some (n + 10)))) C K hP hS rfl rfl rfl rfl (by decide) rfl (by decide) dX5_init_79 (fun H locs hP hS => ?_)
  have hP : mx_P w n ([.inr (5, [.ref (n + 1), .ref (n + 2), .ref (n + 5), .ref (n + 7), .int 0, .int 0, .int 20, .int 200]), .inr (1, [.int 0, .int 0, .int 0]), .inr (7, [.ref (n + 3), .ref (n + 4)]), .inl (w.2.1 1, 10, .inl mx_w0), .inl (w.2.1 1, 10, .inl mx_s0), .inr (4, [.ref (n + 6), .int 0, .int 0, .int 0, .int 0, .int 0, .int 0]), .inl (w.2.1 1, 12, .inl (fun _ => 0)), .inl (w.2.1 2, 10, .inr (.inr (.inr (.inr (va_up (va_up (va_up (fun _ => none) 0 (some (n + 8))) 1 (some (n + 9))) 2 (some (n + 10))))))), .inr (0, [.int 0, .int 0, .int 0, .int 0, .int 0, .int 0, .int 0, .int 0, .int 0, .int 0, .int 0]), .inr (0, [.int 0, .int 0, .int 0, .int 0, .int 0, .int 0, .int 0, .int 0, .int 0, .int 0, .int 0]), .inr (0, [.int 0, .int 0, .int 0, .int 0, .int 0, .int 0, .int 0, .int 0, .int 0, .int 0, .int 0])]) H := hP
  refine lv_iinc (v := 3) (lv' := [(1, .int 3), (0, .ref (n + 0))]) hx hb dX5_init_80 hl (k := 0) rfl (by decide) (by decide) rfl (fun ls hl => ?_)
  refine lv_goto (tgt := 61) hx hb dX5_init_83 (by decide) ?_
  refine lv_iload_n hx hb dX5_init_61 rfl (lv_at hl 0 rfl) ?_
  refine lv_bipush (v := 10) hx hb dX5_init_62 (by decide) ?_
  refine lv_icmp_ge (tgt := 86) hx hb dX5_init_64 (by decide) (fun c => absurd c (by decide)) (fun _ => ?_)
  refine lv_aload_n hx hb dX5_init_67 rfl (lv_at hl 1 rfl) ?_
  refine mx_get (k := 0) (ci := 5) (Cn := RX5) (T := TX5) (N0 := 8) (j := 3) (v := .ref (n + 7)) C K hP rfl mc_in5 rfl (by decide) fl_X5_34 rfl rfl dX5_init_68 ?_
  refine lv_iload_n hx hb dX5_init_71 rfl (lv_at hl 0 rfl) ?_
  refine mx_new (ci := 0) (Cn := RX0) (T := TX0) (N0 := 11) (ty := tyX0) (fs := [.int 0, .int 0, .int 0, .int 0, .int 0, .int 0, .int 0, .int 0, .int 0, .int 0, .int 0]) C K hP hS mc_in0 tyX0_ok rfl cl_X5_32 wb_X0 wn_X0 (fun j hj => by rcases (show j = 0 ∨ j = 1 ∨ j = 2 ∨ j = 3 ∨ j = 4 ∨ j = 5 ∨ j = 6 ∨ j = 7 ∨ j = 8 ∨ j = 9 ∨ j = 10 by omega) with rfl | rfl | rfl | rfl | rfl | rfl | rfl | rfl | rfl | rfl | rfl <;> rfl) (Nat.le_of_ble_eq_true rfl) (Nat.le_of_ble_eq_true rfl) dX5_init_72 (fun H hP hS => ?_)
  have hP : mx_P w n ([.inr (5, [.ref (n + 1), .ref (n + 2), .ref (n + 5), .ref (n + 7), .int 0, .int 0, .int 20, .int 200]), .inr (1, [.int 0, .int 0, .int 0]), .inr (7, [.ref (n + 3), .ref (n + 4)]), .inl (w.2.1 1, 10, .inl mx_w0), .inl (w.2.1 1, 10, .inl mx_s0), .inr (4, [.ref (n + 6), .int 0, .int 0, .int 0, .int 0, .int 0, .int 0]), .inl (w.2.1 1, 12, .inl (fun _ => 0)), .inl (w.2.1 2, 10, .inr (.inr (.inr (.inr (va_up (va_up (va_up (fun _ => none) 0 (some (n + 8))) 1 (some (n + 9))) 2 (some (n + 10))))))), .inr (0, [.int 0, .int 0, .int 0, .int 0, .int 0, .int 0, .int 0, .int 0, .int 0, .int 0, .int 0]), .inr (0, [.int 0, .int 0, .int 0, .int 0, .int 0, .int 0, .int 0, .int 0, .int 0, .int 0, .int 0]), .inr (0, [.int 0, .int 0, .int 0, .int 0, .int 0, .int 0, .int 0, .int 0, .int 0, .int 0, .int 0])] ++ [.inr (0, [.int 0, .int 0, .int 0, .int 0, .int 0, .int 0, .int 0, .int 0, .int 0, .int 0, .int 0])]) H := hP
  refine W.widen (k := 11) (n := 98) (Nat.le_of_ble_eq_true rfl) (Nat.le_of_ble_eq_true rfl) ?_
  refine lv_dup hx hb dX5_init_75 rfl ?_
  refine mx_IN (es := [.inr (5, [.ref (n + 1), .ref (n + 2), .ref (n + 5), .ref (n + 7), .int 0, .int 0, .int 20, .int 200]), .inr (1, [.int 0, .int 0, .int 0]), .inr (7, [.ref (n + 3), .ref (n + 4)]), .inl (w.2.1 1, 10, .inl mx_w0), .inl (w.2.1 1, 10, .inl mx_s0), .inr (4, [.ref (n + 6), .int 0, .int 0, .int 0, .int 0, .int 0, .int 0]), .inl (w.2.1 1, 12, .inl (fun _ => 0)), .inl (w.2.1 2, 10, .inr (.inr (.inr (.inr (va_up (va_up (va_up (fun _ => none) 0 (some (n + 8))) 1 (some (n + 9))) 2 (some (n + 10))))))), .inr (0, [.int 0, .int 0, .int 0, .int 0, .int 0, .int 0, .int 0, .int 0, .int 0, .int 0, .int 0]), .inr (0, [.int 0, .int 0, .int 0, .int 0, .int 0, .int 0, .int 0, .int 0, .int 0, .int 0, .int 0]), .inr (0, [.int 0, .int 0, .int 0, .int 0, .int 0, .int 0, .int 0, .int 0, .int 0, .int 0, .int 0])]) (ct_X0_init l (w := w) (n + 11)) C K hP hS hl.1 K.2.1.2.2.1 wy_X0_init wd_X0_init rfl rfl rfl ⟨Nat.le_of_ble_eq_true rfl, Nat.le_of_ble_eq_true rfl⟩ (Nat.le_of_ble_eq_true rfl) ⟨Nat.le_of_ble_eq_true rfl, Nat.le_of_ble_eq_true rfl⟩ dX5_init_76 (fun H locs hP hS => ?_)
  have hP : mx_P w n ([.inr (5, [.ref (n + 1), .ref (n + 2), .ref (n + 5), .ref (n + 7), .int 0, .int 0, .int 20, .int 200]), .inr (1, [.int 0, .int 0, .int 0]), .inr (7, [.ref (n + 3), .ref (n + 4)]), .inl (w.2.1 1, 10, .inl mx_w0), .inl (w.2.1 1, 10, .inl mx_s0), .inr (4, [.ref (n + 6), .int 0, .int 0, .int 0, .int 0, .int 0, .int 0]), .inl (w.2.1 1, 12, .inl (fun _ => 0)), .inl (w.2.1 2, 10, .inr (.inr (.inr (.inr (va_up (va_up (va_up (fun _ => none) 0 (some (n + 8))) 1 (some (n + 9))) 2 (some (n + 10))))))), .inr (0, [.int 0, .int 0, .int 0, .int 0, .int 0, .int 0, .int 0, .int 0, .int 0, .int 0, .int 0]), .inr (0, [.int 0, .int 0, .int 0, .int 0, .int 0, .int 0, .int 0, .int 0, .int 0, .int 0, .int 0]), .inr (0, [.int 0, .int 0, .int 0, .int 0, .int 0, .int 0, .int 0, .int 0, .int 0, .int 0, .int 0]), .inr (0, [.int 0, .int 0, .int 0, .int 0, .int 0, .int 0, .int 0, .int 0, .int 0, .int 0, .int 0])]) H := hP
  refine W.widen (k := 11) (n := 98) (Nat.le_of_ble_eq_true rfl) (Nat.le_of_ble_eq_true rfl) ?_
  refine mx_aas (k := 7) (k2 := 11) (t0 := 2) (ci := 0) (Z := 10) (r := (RX0, TX0, 11)) (f1 := (va_up (va_up (va_up (va_up (fun _ => none) 0 (some (n + 8))) 1 (some (n + 9))) 2 (some (n + 10))) 3 (some (n + 11)))) C K hP hS rfl rfl rfl rfl (by decide) rfl (by decide) dX5_init_79 (fun H locs hP hS => ?_)
  have hP : mx_P w n ([.inr (5, [.ref (n + 1), .ref (n + 2), .ref (n + 5), .ref (n + 7), .int 0, .int 0, .int 20, .int 200]), .inr (1, [.int 0, .int 0, .int 0]), .inr (7, [.ref (n + 3), .ref (n + 4)]), .inl (w.2.1 1, 10, .inl mx_w0), .inl (w.2.1 1, 10, .inl mx_s0), .inr (4, [.ref (n + 6), .int 0, .int 0, .int 0, .int 0, .int 0, .int 0]), .inl (w.2.1 1, 12, .inl (fun _ => 0)), .inl (w.2.1 2, 10, .inr (.inr (.inr (.inr (va_up (va_up (va_up (va_up (fun _ => none) 0 (some (n + 8))) 1 (some (n + 9))) 2 (some (n + 10))) 3 (some (n + 11))))))), .inr (0, [.int 0, .int 0, .int 0, .int 0, .int 0, .int 0, .int 0, .int 0, .int 0, .int 0, .int 0]), .inr (0, [.int 0, .int 0, .int 0, .int 0, .int 0, .int 0, .int 0, .int 0, .int 0, .int 0, .int 0]), .inr (0, [.int 0, .int 0, .int 0, .int 0, .int 0, .int 0, .int 0, .int 0, .int 0, .int 0, .int 0]), .inr (0, [.int 0, .int 0, .int 0, .int 0, .int 0, .int 0, .int 0, .int 0, .int 0, .int 0, .int 0])]) H := hP
  refine lv_iinc (v := 4) (lv' := [(1, .int 4), (0, .ref (n + 0))]) hx hb dX5_init_80 hl (k := 0) rfl (by decide) (by decide) rfl (fun ls hl => ?_)
  refine lv_goto (tgt := 61) hx hb dX5_init_83 (by decide) ?_
  refine lv_iload_n hx hb dX5_init_61 rfl (lv_at hl 0 rfl) ?_
  refine lv_bipush (v := 10) hx hb dX5_init_62 (by decide) ?_
  refine lv_icmp_ge (tgt := 86) hx hb dX5_init_64 (by decide) (fun c => absurd c (by decide)) (fun _ => ?_)
  refine lv_aload_n hx hb dX5_init_67 rfl (lv_at hl 1 rfl) ?_
  refine mx_get (k := 0) (ci := 5) (Cn := RX5) (T := TX5) (N0 := 8) (j := 3) (v := .ref (n + 7)) C K hP rfl mc_in5 rfl (by decide) fl_X5_34 rfl rfl dX5_init_68 ?_
  refine lv_iload_n hx hb dX5_init_71 rfl (lv_at hl 0 rfl) ?_
  refine mx_new (ci := 0) (Cn := RX0) (T := TX0) (N0 := 11) (ty := tyX0) (fs := [.int 0, .int 0, .int 0, .int 0, .int 0, .int 0, .int 0, .int 0, .int 0, .int 0, .int 0]) C K hP hS mc_in0 tyX0_ok rfl cl_X5_32 wb_X0 wn_X0 (fun j hj => by rcases (show j = 0 ∨ j = 1 ∨ j = 2 ∨ j = 3 ∨ j = 4 ∨ j = 5 ∨ j = 6 ∨ j = 7 ∨ j = 8 ∨ j = 9 ∨ j = 10 by omega) with rfl | rfl | rfl | rfl | rfl | rfl | rfl | rfl | rfl | rfl | rfl <;> rfl) (Nat.le_of_ble_eq_true rfl) (Nat.le_of_ble_eq_true rfl) dX5_init_72 (fun H hP hS => ?_)
  have hP : mx_P w n ([.inr (5, [.ref (n + 1), .ref (n + 2), .ref (n + 5), .ref (n + 7), .int 0, .int 0, .int 20, .int 200]), .inr (1, [.int 0, .int 0, .int 0]), .inr (7, [.ref (n + 3), .ref (n + 4)]), .inl (w.2.1 1, 10, .inl mx_w0), .inl (w.2.1 1, 10, .inl mx_s0), .inr (4, [.ref (n + 6), .int 0, .int 0, .int 0, .int 0, .int 0, .int 0]), .inl (w.2.1 1, 12, .inl (fun _ => 0)), .inl (w.2.1 2, 10, .inr (.inr (.inr (.inr (va_up (va_up (va_up (va_up (fun _ => none) 0 (some (n + 8))) 1 (some (n + 9))) 2 (some (n + 10))) 3 (some (n + 11))))))), .inr (0, [.int 0, .int 0, .int 0, .int 0, .int 0, .int 0, .int 0, .int 0, .int 0, .int 0, .int 0]), .inr (0, [.int 0, .int 0, .int 0, .int 0, .int 0, .int 0, .int 0, .int 0, .int 0, .int 0, .int 0]), .inr (0, [.int 0, .int 0, .int 0, .int 0, .int 0, .int 0, .int 0, .int 0, .int 0, .int 0, .int 0]), .inr (0, [.int 0, .int 0, .int 0, .int 0, .int 0, .int 0, .int 0, .int 0, .int 0, .int 0, .int 0])] ++ [.inr (0, [.int 0, .int 0, .int 0, .int 0, .int 0, .int 0, .int 0, .int 0, .int 0, .int 0, .int 0])]) H := hP
  refine W.widen (k := 12) (n := 109) (Nat.le_of_ble_eq_true rfl) (Nat.le_of_ble_eq_true rfl) ?_
  refine lv_dup hx hb dX5_init_75 rfl ?_
  refine mx_IN (es := [.inr (5, [.ref (n + 1), .ref (n + 2), .ref (n + 5), .ref (n + 7), .int 0, .int 0, .int 20, .int 200]), .inr (1, [.int 0, .int 0, .int 0]), .inr (7, [.ref (n + 3), .ref (n + 4)]), .inl (w.2.1 1, 10, .inl mx_w0), .inl (w.2.1 1, 10, .inl mx_s0), .inr (4, [.ref (n + 6), .int 0, .int 0, .int 0, .int 0, .int 0, .int 0]), .inl (w.2.1 1, 12, .inl (fun _ => 0)), .inl (w.2.1 2, 10, .inr (.inr (.inr (.inr (va_up (va_up (va_up (va_up (fun _ => none) 0 (some (n + 8))) 1 (some (n + 9))) 2 (some (n + 10))) 3 (some (n + 11))))))), .inr (0, [.int 0, .int 0, .int 0, .int 0, .int 0, .int 0, .int 0, .int 0, .int 0, .int 0, .int 0]), .inr (0, [.int 0, .int 0, .int 0, .int 0, .int 0, .int 0, .int 0, .int 0, .int 0, .int 0, .int 0]), .inr (0, [.int 0, .int 0, .int 0, .int 0, .int 0, .int 0, .int 0, .int 0, .int 0, .int 0, .int 0]), .inr (0, [.int 0, .int 0, .int 0, .int 0, .int 0, .int 0, .int 0, .int 0, .int 0, .int 0, .int 0])]) (ct_X0_init l (w := w) (n + 12)) C K hP hS hl.1 K.2.1.2.2.1 wy_X0_init wd_X0_init rfl rfl rfl ⟨Nat.le_of_ble_eq_true rfl, Nat.le_of_ble_eq_true rfl⟩ (Nat.le_of_ble_eq_true rfl) ⟨Nat.le_of_ble_eq_true rfl, Nat.le_of_ble_eq_true rfl⟩ dX5_init_76 (fun H locs hP hS => ?_)
  have hP : mx_P w n ([.inr (5, [.ref (n + 1), .ref (n + 2), .ref (n + 5), .ref (n + 7), .int 0, .int 0, .int 20, .int 200]), .inr (1, [.int 0, .int 0, .int 0]), .inr (7, [.ref (n + 3), .ref (n + 4)]), .inl (w.2.1 1, 10, .inl mx_w0), .inl (w.2.1 1, 10, .inl mx_s0), .inr (4, [.ref (n + 6), .int 0, .int 0, .int 0, .int 0, .int 0, .int 0]), .inl (w.2.1 1, 12, .inl (fun _ => 0)), .inl (w.2.1 2, 10, .inr (.inr (.inr (.inr (va_up (va_up (va_up (va_up (fun _ => none) 0 (some (n + 8))) 1 (some (n + 9))) 2 (some (n + 10))) 3 (some (n + 11))))))), .inr (0, [.int 0, .int 0, .int 0, .int 0, .int 0, .int 0, .int 0, .int 0, .int 0, .int 0, .int 0]), .inr (0, [.int 0, .int 0, .int 0, .int 0, .int 0, .int 0, .int 0, .int 0, .int 0, .int 0, .int 0]), .inr (0, [.int 0, .int 0, .int 0, .int 0, .int 0, .int 0, .int 0, .int 0, .int 0, .int 0, .int 0]), .inr (0, [.int 0, .int 0, .int 0, .int 0, .int 0, .int 0, .int 0, .int 0, .int 0, .int 0, .int 0]), .inr (0, [.int 0, .int 0, .int 0, .int 0, .int 0, .int 0, .int 0, .int 0, .int 0, .int 0, .int 0])]) H := hP
  refine W.widen (k := 12) (n := 109) (Nat.le_of_ble_eq_true rfl) (Nat.le_of_ble_eq_true rfl) ?_
  refine mx_aas (k := 7) (k2 := 12) (t0 := 2) (ci := 0) (Z := 10) (r := (RX0, TX0, 11)) (f1 := (va_up (va_up (va_up (va_up (va_up (fun _ => none) 0 (some (n + 8))) 1 (some (n + 9))) 2 (some (n + 10))) 3 (some (n + 11))) 4 (some (n + 12)))) C K hP hS rfl rfl rfl rfl (by decide) rfl (by decide) dX5_init_79 (fun H locs hP hS => ?_)
  have hP : mx_P w n ([.inr (5, [.ref (n + 1), .ref (n + 2), .ref (n + 5), .ref (n + 7), .int 0, .int 0, .int 20, .int 200]), .inr (1, [.int 0, .int 0, .int 0]), .inr (7, [.ref (n + 3), .ref (n + 4)]), .inl (w.2.1 1, 10, .inl mx_w0), .inl (w.2.1 1, 10, .inl mx_s0), .inr (4, [.ref (n + 6), .int 0, .int 0, .int 0, .int 0, .int 0, .int 0]), .inl (w.2.1 1, 12, .inl (fun _ => 0)), .inl (w.2.1 2, 10, .inr (.inr (.inr (.inr (va_up (va_up (va_up (va_up (va_up (fun _ => none) 0 (some (n + 8))) 1 (some (n + 9))) 2 (some (n + 10))) 3 (some (n + 11))) 4 (some (n + 12))))))), .inr (0, [.int 0, .int 0, .int 0, .int 0, .int 0, .int 0, .int 0, .int 0, .int 0, .int 0, .int 0]), .inr (0, [.int 0, .int 0, .int 0, .int 0, .int 0, .int 0, .int 0, .int 0, .int 0, .int 0, .int 0]), .inr (0, [.int 0, .int 0, .int 0, .int 0, .int 0, .int 0, .int 0, .int 0, .int 0, .int 0, .int 0]), .inr (0, [.int 0, .int 0, .int 0, .int 0, .int 0, .int 0, .int 0, .int 0, .int 0, .int 0, .int 0]), .inr (0, [.int 0, .int 0, .int 0, .int 0, .int 0, .int 0, .int 0, .int 0, .int 0, .int 0, .int 0])]) H := hP
  refine lv_iinc (v := 5) (lv' := [(1, .int 5), (0, .ref (n + 0))]) hx hb dX5_init_80 hl (k := 0) rfl (by decide) (by decide) rfl (fun ls hl => ?_)
  refine lv_goto (tgt := 61) hx hb dX5_init_83 (by decide) ?_
  refine lv_iload_n hx hb dX5_init_61 rfl (lv_at hl 0 rfl) ?_
  refine lv_bipush (v := 10) hx hb dX5_init_62 (by decide) ?_
  refine lv_icmp_ge (tgt := 86) hx hb dX5_init_64 (by decide) (fun c => absurd c (by decide)) (fun _ => ?_)
  refine lv_aload_n hx hb dX5_init_67 rfl (lv_at hl 1 rfl) ?_
  refine mx_get (k := 0) (ci := 5) (Cn := RX5) (T := TX5) (N0 := 8) (j := 3) (v := .ref (n + 7)) C K hP rfl mc_in5 rfl (by decide) fl_X5_34 rfl rfl dX5_init_68 ?_
  refine lv_iload_n hx hb dX5_init_71 rfl (lv_at hl 0 rfl) ?_
  refine mx_new (ci := 0) (Cn := RX0) (T := TX0) (N0 := 11) (ty := tyX0) (fs := [.int 0, .int 0, .int 0, .int 0, .int 0, .int 0, .int 0, .int 0, .int 0, .int 0, .int 0]) C K hP hS mc_in0 tyX0_ok rfl cl_X5_32 wb_X0 wn_X0 (fun j hj => by rcases (show j = 0 ∨ j = 1 ∨ j = 2 ∨ j = 3 ∨ j = 4 ∨ j = 5 ∨ j = 6 ∨ j = 7 ∨ j = 8 ∨ j = 9 ∨ j = 10 by omega) with rfl | rfl | rfl | rfl | rfl | rfl | rfl | rfl | rfl | rfl | rfl <;> rfl) (Nat.le_of_ble_eq_true rfl) (Nat.le_of_ble_eq_true rfl) dX5_init_72 (fun H hP hS => ?_)
  have hP : mx_P w n ([.inr (5, [.ref (n + 1), .ref (n + 2), .ref (n + 5), .ref (n + 7), .int 0, .int 0, .int 20, .int 200]), .inr (1, [.int 0, .int 0, .int 0]), .inr (7, [.ref (n + 3), .ref (n + 4)]), .inl (w.2.1 1, 10, .inl mx_w0), .inl (w.2.1 1, 10, .inl mx_s0), .inr (4, [.ref (n + 6), .int 0, .int 0, .int 0, .int 0, .int 0, .int 0]), .inl (w.2.1 1, 12, .inl (fun _ => 0)), .inl (w.2.1 2, 10, .inr (.inr (.inr (.inr (va_up (va_up (va_up (va_up (va_up (fun _ => none) 0 (some (n + 8))) 1 (some (n + 9))) 2 (some (n + 10))) 3 (some (n + 11))) 4 (some (n + 12))))))), .inr (0, [.int 0, .int 0, .int 0, .int 0, .int 0, .int 0, .int 0, .int 0, .int 0, .int 0, .int 0]), .inr (0, [.int 0, .int 0, .int 0, .int 0, .int 0, .int 0, .int 0, .int 0, .int 0, .int 0, .int 0]), .inr (0, [.int 0, .int 0, .int 0, .int 0, .int 0, .int 0, .int 0, .int 0, .int 0, .int 0, .int 0]), .inr (0, [.int 0, .int 0, .int 0, .int 0, .int 0, .int 0, .int 0, .int 0, .int 0, .int 0, .int 0]), .inr (0, [.int 0, .int 0, .int 0, .int 0, .int 0, .int 0, .int 0, .int 0, .int 0, .int 0, .int 0])] ++ [.inr (0, [.int 0, .int 0, .int 0, .int 0, .int 0, .int 0, .int 0, .int 0, .int 0, .int 0, .int 0])]) H := hP
  refine W.widen (k := 13) (n := 120) (Nat.le_of_ble_eq_true rfl) (Nat.le_of_ble_eq_true rfl) ?_
  refine lv_dup hx hb dX5_init_75 rfl ?_
  refine mx_IN (es := [.inr (5, [.ref (n + 1), .ref (n + 2), .ref (n + 5), .ref (n + 7), .int 0, .int 0, .int 20, .int 200]), .inr (1, [.int 0, .int 0, .int 0]), .inr (7, [.ref (n + 3), .ref (n + 4)]), .inl (w.2.1 1, 10, .inl mx_w0), .inl (w.2.1 1, 10, .inl mx_s0), .inr (4, [.ref (n + 6), .int 0, .int 0, .int 0, .int 0, .int 0, .int 0]), .inl (w.2.1 1, 12, .inl (fun _ => 0)), .inl (w.2.1 2, 10, .inr (.inr (.inr (.inr (va_up (va_up (va_up (va_up (va_up (fun _ => none) 0 (some (n + 8))) 1 (some (n + 9))) 2 (some (n + 10))) 3 (some (n + 11))) 4 (some (n + 12))))))), .inr (0, [.int 0, .int 0, .int 0, .int 0, .int 0, .int 0, .int 0, .int 0, .int 0, .int 0, .int 0]), .inr (0, [.int 0, .int 0, .int 0, .int 0, .int 0, .int 0, .int 0, .int 0, .int 0, .int 0, .int 0]), .inr (0, [.int 0, .int 0, .int 0, .int 0, .int 0, .int 0, .int 0, .int 0, .int 0, .int 0, .int 0]), .inr (0, [.int 0, .int 0, .int 0, .int 0, .int 0, .int 0, .int 0, .int 0, .int 0, .int 0, .int 0]), .inr (0, [.int 0, .int 0, .int 0, .int 0, .int 0, .int 0, .int 0, .int 0, .int 0, .int 0, .int 0])]) (ct_X0_init l (w := w) (n + 13)) C K hP hS hl.1 K.2.1.2.2.1 wy_X0_init wd_X0_init rfl rfl rfl ⟨Nat.le_of_ble_eq_true rfl, Nat.le_of_ble_eq_true rfl⟩ (Nat.le_of_ble_eq_true rfl) ⟨Nat.le_of_ble_eq_true rfl, Nat.le_of_ble_eq_true rfl⟩ dX5_init_76 (fun H locs hP hS => ?_)
  have hP : mx_P w n ([.inr (5, [.ref (n + 1), .ref (n + 2), .ref (n + 5), .ref (n + 7), .int 0, .int 0, .int 20, .int 200]), .inr (1, [.int 0, .int 0, .int 0]), .inr (7, [.ref (n + 3), .ref (n + 4)]), .inl (w.2.1 1, 10, .inl mx_w0), .inl (w.2.1 1, 10, .inl mx_s0), .inr (4, [.ref (n + 6), .int 0, .int 0, .int 0, .int 0, .int 0, .int 0]), .inl (w.2.1 1, 12, .inl (fun _ => 0)), .inl (w.2.1 2, 10, .inr (.inr (.inr (.inr (va_up (va_up (va_up (va_up (va_up (fun _ => none) 0 (some (n + 8))) 1 (some (n + 9))) 2 (some (n + 10))) 3 (some (n + 11))) 4 (some (n + 12))))))), .inr (0, [.int 0, .int 0, .int 0, .int 0, .int 0, .int 0, .int 0, .int 0, .int 0, .int 0, .int 0]), .inr (0, [.int 0, .int 0, .int 0, .int 0, .int 0, .int 0, .int 0, .int 0, .int 0, .int 0, .int 0]), .inr (0, [.int 0, .int 0, .int 0, .int 0, .int 0, .int 0, .int 0, .int 0, .int 0, .int 0, .int 0]), .inr (0, [.int 0, .int 0, .int 0, .int 0, .int 0, .int 0, .int 0, .int 0, .int 0, .int 0, .int 0]), .inr (0, [.int 0, .int 0, .int 0, .int 0, .int 0, .int 0, .int 0, .int 0, .int 0, .int 0, .int 0]), .inr (0, [.int 0, .int 0, .int 0, .int 0, .int 0, .int 0, .int 0, .int 0, .int 0, .int 0, .int 0])]) H := hP
  refine W.widen (k := 13) (n := 120) (Nat.le_of_ble_eq_true rfl) (Nat.le_of_ble_eq_true rfl) ?_
  refine mx_aas (k := 7) (k2 := 13) (t0 := 2) (ci := 0) (Z := 10) (r := (RX0, TX0, 11)) (f1 := (va_up (va_up (va_up (va_up (va_up (va_up (fun _ => none) 0 (some (n + 8))) 1 (some (n + 9))) 2 (some (n + 10))) 3 (some (n + 11))) 4 (some (n + 12))) 5 (some (n + 13)))) C K hP hS rfl rfl rfl rfl (by decide) rfl (by decide) dX5_init_79 (fun H locs hP hS => ?_)
  have hP : mx_P w n ([.inr (5, [.ref (n + 1), .ref (n + 2), .ref (n + 5), .ref (n + 7), .int 0, .int 0, .int 20, .int 200]), .inr (1, [.int 0, .int 0, .int 0]), .inr (7, [.ref (n + 3), .ref (n + 4)]), .inl (w.2.1 1, 10, .inl mx_w0), .inl (w.2.1 1, 10, .inl mx_s0), .inr (4, [.ref (n + 6), .int 0, .int 0, .int 0, .int 0, .int 0, .int 0]), .inl (w.2.1 1, 12, .inl (fun _ => 0)), .inl (w.2.1 2, 10, .inr (.inr (.inr (.inr (va_up (va_up (va_up (va_up (va_up (va_up (fun _ => none) 0 (some (n + 8))) 1 (some (n + 9))) 2 (some (n + 10))) 3 (some (n + 11))) 4 (some (n + 12))) 5 (some (n + 13))))))), .inr (0, [.int 0, .int 0, .int 0, .int 0, .int 0, .int 0, .int 0, .int 0, .int 0, .int 0, .int 0]), .inr (0, [.int 0, .int 0, .int 0, .int 0, .int 0, .int 0, .int 0, .int 0, .int 0, .int 0, .int 0]), .inr (0, [.int 0, .int 0, .int 0, .int 0, .int 0, .int 0, .int 0, .int 0, .int 0, .int 0, .int 0]), .inr (0, [.int 0, .int 0, .int 0, .int 0, .int 0, .int 0, .int 0, .int 0, .int 0, .int 0, .int 0]), .inr (0, [.int 0, .int 0, .int 0, .int 0, .int 0, .int 0, .int 0, .int 0, .int 0, .int 0, .int 0]), .inr (0, [.int 0, .int 0, .int 0, .int 0, .int 0, .int 0, .int 0, .int 0, .int 0, .int 0, .int 0])]) H := hP
  refine lv_iinc (v := 6) (lv' := [(1, .int 6), (0, .ref (n + 0))]) hx hb dX5_init_80 hl (k := 0) rfl (by decide) (by decide) rfl (fun ls hl => ?_)
  refine lv_goto (tgt := 61) hx hb dX5_init_83 (by decide) ?_
  refine lv_iload_n hx hb dX5_init_61 rfl (lv_at hl 0 rfl) ?_
  refine lv_bipush (v := 10) hx hb dX5_init_62 (by decide) ?_
  refine lv_icmp_ge (tgt := 86) hx hb dX5_init_64 (by decide) (fun c => absurd c (by decide)) (fun _ => ?_)
  refine lv_aload_n hx hb dX5_init_67 rfl (lv_at hl 1 rfl) ?_
  refine mx_get (k := 0) (ci := 5) (Cn := RX5) (T := TX5) (N0 := 8) (j := 3) (v := .ref (n + 7)) C K hP rfl mc_in5 rfl (by decide) fl_X5_34 rfl rfl dX5_init_68 ?_
  refine lv_iload_n hx hb dX5_init_71 rfl (lv_at hl 0 rfl) ?_
  refine mx_new (ci := 0) (Cn := RX0) (T := TX0) (N0 := 11) (ty := tyX0) (fs := [.int 0, .int 0, .int 0, .int 0, .int 0, .int 0, .int 0, .int 0, .int 0, .int 0, .int 0]) C K hP hS mc_in0 tyX0_ok rfl cl_X5_32 wb_X0 wn_X0 (fun j hj => by rcases (show j = 0 ∨ j = 1 ∨ j = 2 ∨ j = 3 ∨ j = 4 ∨ j = 5 ∨ j = 6 ∨ j = 7 ∨ j = 8 ∨ j = 9 ∨ j = 10 by omega) with rfl | rfl | rfl | rfl | rfl | rfl | rfl | rfl | rfl | rfl | rfl <;> rfl) (Nat.le_of_ble_eq_true rfl) (Nat.le_of_ble_eq_true rfl) dX5_init_72 (fun H hP hS => ?_)
  have hP : mx_P w n ([.inr (5, [.ref (n + 1), .ref (n + 2), .ref (n + 5), .ref (n + 7), .int 0, .int 0, .int 20, .int 200]), .inr (1, [.int 0, .int 0, .int 0]), .inr (7, [.ref (n + 3), .ref (n + 4)]), .inl (w.2.1 1, 10, .inl mx_w0), .inl (w.2.1 1, 10, .inl mx_s0), .inr (4, [.ref (n + 6), .int 0, .int 0, .int 0, .int 0, .int 0, .int 0]), .inl (w.2.1 1, 12, .inl (fun _ => 0)), .inl (w.2.1 2, 10, .inr (.inr (.inr (.inr (va_up (va_up (va_up (va_up (va_up (va_up (fun _ => none) 0 (some (n + 8))) 1 (some (n + 9))) 2 (some (n + 10))) 3 (some (n + 11))) 4 (some (n + 12))) 5 (some (n + 13))))))), .inr (0, [.int 0, .int 0, .int 0, .int 0, .int 0, .int 0, .int 0, .int 0, .int 0, .int 0, .int 0]), .inr (0, [.int 0, .int 0, .int 0, .int 0, .int 0, .int 0, .int 0, .int 0, .int 0, .int 0, .int 0]), .inr (0, [.int 0, .int 0, .int 0, .int 0, .int 0, .int 0, .int 0, .int 0, .int 0, .int 0, .int 0]), .inr (0, [.int 0, .int 0, .int 0, .int 0, .int 0, .int 0, .int 0, .int 0, .int 0, .int 0, .int 0]), .inr (0, [.int 0, .int 0, .int 0, .int 0, .int 0, .int 0, .int 0, .int 0, .int 0, .int 0, .int 0]), .inr (0, [.int 0, .int 0, .int 0, .int 0, .int 0, .int 0, .int 0, .int 0, .int 0, .int 0, .int 0])] ++ [.inr (0, [.int 0, .int 0, .int 0, .int 0, .int 0, .int 0, .int 0, .int 0, .int 0, .int 0, .int 0])]) H := hP
  refine W.widen (k := 14) (n := 131) (Nat.le_of_ble_eq_true rfl) (Nat.le_of_ble_eq_true rfl) ?_
  refine lv_dup hx hb dX5_init_75 rfl ?_
  refine mx_IN (es := [.inr (5, [.ref (n + 1), .ref (n + 2), .ref (n + 5), .ref (n + 7), .int 0, .int 0, .int 20, .int 200]), .inr (1, [.int 0, .int 0, .int 0]), .inr (7, [.ref (n + 3), .ref (n + 4)]), .inl (w.2.1 1, 10, .inl mx_w0), .inl (w.2.1 1, 10, .inl mx_s0), .inr (4, [.ref (n + 6), .int 0, .int 0, .int 0, .int 0, .int 0, .int 0]), .inl (w.2.1 1, 12, .inl (fun _ => 0)), .inl (w.2.1 2, 10, .inr (.inr (.inr (.inr (va_up (va_up (va_up (va_up (va_up (va_up (fun _ => none) 0 (some (n + 8))) 1 (some (n + 9))) 2 (some (n + 10))) 3 (some (n + 11))) 4 (some (n + 12))) 5 (some (n + 13))))))), .inr (0, [.int 0, .int 0, .int 0, .int 0, .int 0, .int 0, .int 0, .int 0, .int 0, .int 0, .int 0]), .inr (0, [.int 0, .int 0, .int 0, .int 0, .int 0, .int 0, .int 0, .int 0, .int 0, .int 0, .int 0]), .inr (0, [.int 0, .int 0, .int 0, .int 0, .int 0, .int 0, .int 0, .int 0, .int 0, .int 0, .int 0]), .inr (0, [.int 0, .int 0, .int 0, .int 0, .int 0, .int 0, .int 0, .int 0, .int 0, .int 0, .int 0]), .inr (0, [.int 0, .int 0, .int 0, .int 0, .int 0, .int 0, .int 0, .int 0, .int 0, .int 0, .int 0]), .inr (0, [.int 0, .int 0, .int 0, .int 0, .int 0, .int 0, .int 0, .int 0, .int 0, .int 0, .int 0])]) (ct_X0_init l (w := w) (n + 14)) C K hP hS hl.1 K.2.1.2.2.1 wy_X0_init wd_X0_init rfl rfl rfl ⟨Nat.le_of_ble_eq_true rfl, Nat.le_of_ble_eq_true rfl⟩ (Nat.le_of_ble_eq_true rfl) ⟨Nat.le_of_ble_eq_true rfl, Nat.le_of_ble_eq_true rfl⟩ dX5_init_76 (fun H locs hP hS => ?_)
  have hP : mx_P w n ([.inr (5, [.ref (n + 1), .ref (n + 2), .ref (n + 5), .ref (n + 7), .int 0, .int 0, .int 20, .int 200]), .inr (1, [.int 0, .int 0, .int 0]), .inr (7, [.ref (n + 3), .ref (n + 4)]), .inl (w.2.1 1, 10, .inl mx_w0), .inl (w.2.1 1, 10, .inl mx_s0), .inr (4, [.ref (n + 6), .int 0, .int 0, .int 0, .int 0, .int 0, .int 0]), .inl (w.2.1 1, 12, .inl (fun _ => 0)), .inl (w.2.1 2, 10, .inr (.inr (.inr (.inr (va_up (va_up (va_up (va_up (va_up (va_up (fun _ => none) 0 (some (n + 8))) 1 (some (n + 9))) 2 (some (n + 10))) 3 (some (n + 11))) 4 (some (n + 12))) 5 (some (n + 13))))))), .inr (0, [.int 0, .int 0, .int 0, .int 0, .int 0, .int 0, .int 0, .int 0, .int 0, .int 0, .int 0]), .inr (0, [.int 0, .int 0, .int 0, .int 0, .int 0, .int 0, .int 0, .int 0, .int 0, .int 0, .int 0]), .inr (0, [.int 0, .int 0, .int 0, .int 0, .int 0, .int 0, .int 0, .int 0, .int 0, .int 0, .int 0]), .inr (0, [.int 0, .int 0, .int 0, .int 0, .int 0, .int 0, .int 0, .int 0, .int 0, .int 0, .int 0]), .inr (0, [.int 0, .int 0, .int 0, .int 0, .int 0, .int 0, .int 0, .int 0, .int 0, .int 0, .int 0]), .inr (0, [.int 0, .int 0, .int 0, .int 0, .int 0, .int 0, .int 0, .int 0, .int 0, .int 0, .int 0]), .inr (0, [.int 0, .int 0, .int 0, .int 0, .int 0, .int 0, .int 0, .int 0, .int 0, .int 0, .int 0])]) H := hP
  refine W.widen (k := 14) (n := 131) (Nat.le_of_ble_eq_true rfl) (Nat.le_of_ble_eq_true rfl) ?_
  refine mx_aas (k := 7) (k2 := 14) (t0 := 2) (ci := 0) (Z := 10) (r := (RX0, TX0, 11)) (f1 := (va_up (va_up (va_up (va_up (va_up (va_up (va_up (fun _ => none) 0 (some (n + 8))) 1 (some (n + 9))) 2 (some (n + 10))) 3 (some (n + 11))) 4 (some (n + 12))) 5 (some (n + 13))) 6 (some (n + 14)))) C K hP hS rfl rfl rfl rfl (by decide) rfl (by decide) dX5_init_79 (fun H locs hP hS => ?_)
  have hP : mx_P w n ([.inr (5, [.ref (n + 1), .ref (n + 2), .ref (n + 5), .ref (n + 7), .int 0, .int 0, .int 20, .int 200]), .inr (1, [.int 0, .int 0, .int 0]), .inr (7, [.ref (n + 3), .ref (n + 4)]), .inl (w.2.1 1, 10, .inl mx_w0), .inl (w.2.1 1, 10, .inl mx_s0), .inr (4, [.ref (n + 6), .int 0, .int 0, .int 0, .int 0, .int 0, .int 0]), .inl (w.2.1 1, 12, .inl (fun _ => 0)), .inl (w.2.1 2, 10, .inr (.inr (.inr (.inr (va_up (va_up (va_up (va_up (va_up (va_up (va_up (fun _ => none) 0 (some (n + 8))) 1 (some (n + 9))) 2 (some (n + 10))) 3 (some (n + 11))) 4 (some (n + 12))) 5 (some (n + 13))) 6 (some (n + 14))))))), .inr (0, [.int 0, .int 0, .int 0, .int 0, .int 0, .int 0, .int 0, .int 0, .int 0, .int 0, .int 0]), .inr (0, [.int 0, .int 0, .int 0, .int 0, .int 0, .int 0, .int 0, .int 0, .int 0, .int 0, .int 0]), .inr (0, [.int 0, .int 0, .int 0, .int 0, .int 0, .int 0, .int 0, .int 0, .int 0, .int 0, .int 0]), .inr (0, [.int 0, .int 0, .int 0, .int 0, .int 0, .int 0, .int 0, .int 0, .int 0, .int 0, .int 0]), .inr (0, [.int 0, .int 0, .int 0, .int 0, .int 0, .int 0, .int 0, .int 0, .int 0, .int 0, .int 0]), .inr (0, [.int 0, .int 0, .int 0, .int 0, .int 0, .int 0, .int 0, .int 0, .int 0, .int 0, .int 0]), .inr (0, [.int 0, .int 0, .int 0, .int 0, .int 0, .int 0, .int 0, .int 0, .int 0, .int 0, .int 0])]) H := hP
  refine lv_iinc (v := 7) (lv' := [(1, .int 7), (0, .ref (n + 0))]) hx hb dX5_init_80 hl (k := 0) rfl (by decide) (by decide) rfl (fun ls hl => ?_)
  refine lv_goto (tgt := 61) hx hb dX5_init_83 (by decide) ?_
  refine lv_iload_n hx hb dX5_init_61 rfl (lv_at hl 0 rfl) ?_
  refine lv_bipush (v := 10) hx hb dX5_init_62 (by decide) ?_
  refine lv_icmp_ge (tgt := 86) hx hb dX5_init_64 (by decide) (fun c => absurd c (by decide)) (fun _ => ?_)
  refine lv_aload_n hx hb dX5_init_67 rfl (lv_at hl 1 rfl) ?_
  refine mx_get (k := 0) (ci := 5) (Cn := RX5) (T := TX5) (N0 := 8) (j := 3) (v := .ref (n + 7)) C K hP rfl mc_in5 rfl (by decide) fl_X5_34 rfl rfl dX5_init_68 ?_
  refine lv_iload_n hx hb dX5_init_71 rfl (lv_at hl 0 rfl) ?_
  refine mx_new (ci := 0) (Cn := RX0) (T := TX0) (N0 := 11) (ty := tyX0) (fs := [.int 0, .int 0, .int 0, .int 0, .int 0, .int 0, .int 0, .int 0, .int 0, .int 0, .int 0]) C K hP hS mc_in0 tyX0_ok rfl cl_X5_32 wb_X0 wn_X0 (fun j hj => by rcases (show j = 0 ∨ j = 1 ∨ j = 2 ∨ j = 3 ∨ j = 4 ∨ j = 5 ∨ j = 6 ∨ j = 7 ∨ j = 8 ∨ j = 9 ∨ j = 10 by omega) with rfl | rfl | rfl | rfl | rfl | rfl | rfl | rfl | rfl | rfl | rfl <;> rfl) (Nat.le_of_ble_eq_true rfl) (Nat.le_of_ble_eq_true rfl) dX5_init_72 (fun H hP hS => ?_)
  have hP : mx_P w n ([.inr (5, [.ref (n + 1), .ref (n + 2), .ref (n + 5), .ref (n + 7), .int 0, .int 0, .int 20, .int 200]), .inr (1, [.int 0, .int 0, .int 0]), .inr (7, [.ref (n + 3), .ref (n + 4)]), .inl (w.2.1 1, 10, .inl mx_w0), .inl (w.2.1 1, 10, .inl mx_s0), .inr (4, [.ref (n + 6), .int 0, .int 0, .int 0, .int 0, .int 0, .int 0]), .inl (w.2.1 1, 12, .inl (fun _ => 0)), .inl (w.2.1 2, 10, .inr (.inr (.inr (.inr (va_up (va_up (va_up (va_up (va_up (va_up (va_up (fun _ => none) 0 (some (n + 8))) 1 (some (n + 9))) 2 (some (n + 10))) 3 (some (n + 11))) 4 (some (n + 12))) 5 (some (n + 13))) 6 (some (n + 14))))))), .inr (0, [.int 0, .int 0, .int 0, .int 0, .int 0, .int 0, .int 0, .int 0, .int 0, .int 0, .int 0]), .inr (0, [.int 0, .int 0, .int 0, .int 0, .int 0, .int 0, .int 0, .int 0, .int 0, .int 0, .int 0]), .inr (0, [.int 0, .int 0, .int 0, .int 0, .int 0, .int 0, .int 0, .int 0, .int 0, .int 0, .int 0]), .inr (0, [.int 0, .int 0, .int 0, .int 0, .int 0, .int 0, .int 0, .int 0, .int 0, .int 0, .int 0]), .inr (0, [.int 0, .int 0, .int 0, .int 0, .int 0, .int 0, .int 0, .int 0, .int 0, .int 0, .int 0]), .inr (0, [.int 0, .int 0, .int 0, .int 0, .int 0, .int 0, .int 0, .int 0, .int 0, .int 0, .int 0]), .inr (0, [.int 0, .int 0, .int 0, .int 0, .int 0, .int 0, .int 0, .int 0, .int 0, .int 0, .int 0])] ++ [.inr (0, [.int 0, .int 0, .int 0, .int 0, .int 0, .int 0, .int 0, .int 0, .int 0, .int 0, .int 0])]) H := hP
  refine W.widen (k := 15) (n := 142) (Nat.le_of_ble_eq_true rfl) (Nat.le_of_ble_eq_true rfl) ?_
  refine lv_dup hx hb dX5_init_75 rfl ?_
  refine mx_IN (es := [.inr (5, [.ref (n + 1), .ref (n + 2), .ref (n + 5), .ref (n + 7), .int 0, .int 0, .int 20, .int 200]), .inr (1, [.int 0, .int 0, .int 0]), .inr (7, [.ref (n + 3), .ref (n + 4)]), .inl (w.2.1 1, 10, .inl mx_w0), .inl (w.2.1 1, 10, .inl mx_s0), .inr (4, [.ref (n + 6), .int 0, .int 0, .int 0, .int 0, .int 0, .int 0]), .inl (w.2.1 1, 12, .inl (fun _ => 0)), .inl (w.2.1 2, 10, .inr (.inr (.inr (.inr (va_up (va_up (va_up (va_up (va_up (va_up (va_up (fun _ => none) 0 (some (n + 8))) 1 (some (n + 9))) 2 (some (n + 10))) 3 (some (n + 11))) 4 (some (n + 12))) 5 (some (n + 13))) 6 (some (n + 14))))))), .inr (0, [.int 0, .int 0, .int 0, .int 0, .int 0, .int 0, .int 0, .int 0, .int 0, .int 0, .int 0]), .inr (0, [.int 0, .int 0, .int 0, .int 0, .int 0, .int 0, .int 0, .int 0, .int 0, .int 0, .int 0]), .inr (0, [.int 0, .int 0, .int 0, .int 0, .int 0, .int 0, .int 0, .int 0, .int 0, .int 0, .int 0]), .inr (0, [.int 0, .int 0, .int 0, .int 0, .int 0, .int 0, .int 0, .int 0, .int 0, .int 0, .int 0]), .inr (0, [.int 0, .int 0, .int 0, .int 0, .int 0, .int 0, .int 0, .int 0, .int 0, .int 0, .int 0]), .inr (0, [.int 0, .int 0, .int 0, .int 0, .int 0, .int 0, .int 0, .int 0, .int 0, .int 0, .int 0]), .inr (0, [.int 0, .int 0, .int 0, .int 0, .int 0, .int 0, .int 0, .int 0, .int 0, .int 0, .int 0])]) (ct_X0_init l (w := w) (n + 15)) C K hP hS hl.1 K.2.1.2.2.1 wy_X0_init wd_X0_init rfl rfl rfl ⟨Nat.le_of_ble_eq_true rfl, Nat.le_of_ble_eq_true rfl⟩ (Nat.le_of_ble_eq_true rfl) ⟨Nat.le_of_ble_eq_true rfl, Nat.le_of_ble_eq_true rfl⟩ dX5_init_76 (fun H locs hP hS => ?_)
  have hP : mx_P w n ([.inr (5, [.ref (n + 1), .ref (n + 2), .ref (n + 5), .ref (n + 7), .int 0, .int 0, .int 20, .int 200]), .inr (1, [.int 0, .int 0, .int 0]), .inr (7, [.ref (n + 3), .ref (n + 4)]), .inl (w.2.1 1, 10, .inl mx_w0), .inl (w.2.1 1, 10, .inl mx_s0), .inr (4, [.ref (n + 6), .int 0, .int 0, .int 0, .int 0, .int 0, .int 0]), .inl (w.2.1 1, 12, .inl (fun _ => 0)), .inl (w.2.1 2, 10, .inr (.inr (.inr (.inr (va_up (va_up (va_up (va_up (va_up (va_up (va_up (fun _ => none) 0 (some (n + 8))) 1 (some (n + 9))) 2 (some (n + 10))) 3 (some (n + 11))) 4 (some (n + 12))) 5 (some (n + 13))) 6 (some (n + 14))))))), .inr (0, [.int 0, .int 0, .int 0, .int 0, .int 0, .int 0, .int 0, .int 0, .int 0, .int 0, .int 0]), .inr (0, [.int 0, .int 0, .int 0, .int 0, .int 0, .int 0, .int 0, .int 0, .int 0, .int 0, .int 0]), .inr (0, [.int 0, .int 0, .int 0, .int 0, .int 0, .int 0, .int 0, .int 0, .int 0, .int 0, .int 0]), .inr (0, [.int 0, .int 0, .int 0, .int 0, .int 0, .int 0, .int 0, .int 0, .int 0, .int 0, .int 0]), .inr (0, [.int 0, .int 0, .int 0, .int 0, .int 0, .int 0, .int 0, .int 0, .int 0, .int 0, .int 0]), .inr (0, [.int 0, .int 0, .int 0, .int 0, .int 0, .int 0, .int 0, .int 0, .int 0, .int 0, .int 0]), .inr (0, [.int 0, .int 0, .int 0, .int 0, .int 0, .int 0, .int 0, .int 0, .int 0, .int 0, .int 0]), .inr (0, [.int 0, .int 0, .int 0, .int 0, .int 0, .int 0, .int 0, .int 0, .int 0, .int 0, .int 0])]) H := hP
  refine W.widen (k := 15) (n := 142) (Nat.le_of_ble_eq_true rfl) (Nat.le_of_ble_eq_true rfl) ?_
  refine mx_aas (k := 7) (k2 := 15) (t0 := 2) (ci := 0) (Z := 10) (r := (RX0, TX0, 11)) (f1 := (va_up (va_up (va_up (va_up (va_up (va_up (va_up (va_up (fun _ => none) 0 (some (n + 8))) 1 (some (n + 9))) 2 (some (n + 10))) 3 (some (n + 11))) 4 (some (n + 12))) 5 (some (n + 13))) 6 (some (n + 14))) 7 (some (n + 15)))) C K hP hS rfl rfl rfl rfl (by decide) rfl (by decide) dX5_init_79 (fun H locs hP hS => ?_)
  have hP : mx_P w n ([.inr (5, [.ref (n + 1), .ref (n + 2), .ref (n + 5), .ref (n + 7), .int 0, .int 0, .int 20, .int 200]), .inr (1, [.int 0, .int 0, .int 0]), .inr (7, [.ref (n + 3), .ref (n + 4)]), .inl (w.2.1 1, 10, .inl mx_w0), .inl (w.2.1 1, 10, .inl mx_s0), .inr (4, [.ref (n + 6), .int 0, .int 0, .int 0, .int 0, .int 0, .int 0]), .inl (w.2.1 1, 12, .inl (fun _ => 0)), .inl (w.2.1 2, 10, .inr (.inr (.inr (.inr (va_up (va_up (va_up (va_up (va_up (va_up (va_up (va_up (fun _ => none) 0 (some (n + 8))) 1 (some (n + 9))) 2 (some (n + 10))) 3 (some (n + 11))) 4 (some (n + 12))) 5 (some (n + 13))) 6 (some (n + 14))) 7 (some (n + 15))))))), .inr (0, [.int 0, .int 0, .int 0, .int 0, .int 0, .int 0, .int 0, .int 0, .int 0, .int 0, .int 0]), .inr (0, [.int 0, .int 0, .int 0, .int 0, .int 0, .int 0, .int 0, .int 0, .int 0, .int 0, .int 0]), .inr (0, [.int 0, .int 0, .int 0, .int 0, .int 0, .int 0, .int 0, .int 0, .int 0, .int 0, .int 0]), .inr (0, [.int 0, .int 0, .int 0, .int 0, .int 0, .int 0, .int 0, .int 0, .int 0, .int 0, .int 0]), .inr (0, [.int 0, .int 0, .int 0, .int 0, .int 0, .int 0, .int 0, .int 0, .int 0, .int 0, .int 0]), .inr (0, [.int 0, .int 0, .int 0, .int 0, .int 0, .int 0, .int 0, .int 0, .int 0, .int 0, .int 0]), .inr (0, [.int 0, .int 0, .int 0, .int 0, .int 0, .int 0, .int 0, .int 0, .int 0, .int 0, .int 0]), .inr (0, [.int 0, .int 0, .int 0, .int 0, .int 0, .int 0, .int 0, .int 0, .int 0, .int 0, .int 0])]) H := hP
  refine lv_iinc (v := 8) (lv' := [(1, .int 8), (0, .ref (n + 0))]) hx hb dX5_init_80 hl (k := 0) rfl (by decide) (by decide) rfl (fun ls hl => ?_)
  refine lv_goto (tgt := 61) hx hb dX5_init_83 (by decide) ?_
  refine lv_iload_n hx hb dX5_init_61 rfl (lv_at hl 0 rfl) ?_
  refine lv_bipush (v := 10) hx hb dX5_init_62 (by decide) ?_
  refine lv_icmp_ge (tgt := 86) hx hb dX5_init_64 (by decide) (fun c => absurd c (by decide)) (fun _ => ?_)
  refine lv_aload_n hx hb dX5_init_67 rfl (lv_at hl 1 rfl) ?_
  refine mx_get (k := 0) (ci := 5) (Cn := RX5) (T := TX5) (N0 := 8) (j := 3) (v := .ref (n + 7)) C K hP rfl mc_in5 rfl (by decide) fl_X5_34 rfl rfl dX5_init_68 ?_
  refine lv_iload_n hx hb dX5_init_71 rfl (lv_at hl 0 rfl) ?_
  refine mx_new (ci := 0) (Cn := RX0) (T := TX0) (N0 := 11) (ty := tyX0) (fs := [.int 0, .int 0, .int 0, .int 0, .int 0, .int 0, .int 0, .int 0, .int 0, .int 0, .int 0]) C K hP hS mc_in0 tyX0_ok rfl cl_X5_32 wb_X0 wn_X0 (fun j hj => by rcases (show j = 0 ∨ j = 1 ∨ j = 2 ∨ j = 3 ∨ j = 4 ∨ j = 5 ∨ j = 6 ∨ j = 7 ∨ j = 8 ∨ j = 9 ∨ j = 10 by omega) with rfl | rfl | rfl | rfl | rfl | rfl | rfl | rfl | rfl | rfl | rfl <;> rfl) (Nat.le_of_ble_eq_true rfl) (Nat.le_of_ble_eq_true rfl) dX5_init_72 (fun H hP hS => ?_)
  have hP : mx_P w n ([.inr (5, [.ref (n + 1), .ref (n + 2), .ref (n + 5), .ref (n + 7), .int 0, .int 0, .int 20, .int 200]), .inr (1, [.int 0, .int 0, .int 0]), .inr (7, [.ref (n + 3), .ref (n + 4)]), .inl (w.2.1 1, 10, .inl mx_w0), .inl (w.2.1 1, 10, .inl mx_s0), .inr (4, [.ref (n + 6), .int 0, .int 0, .int 0, .int 0, .int 0, .int 0]), .inl (w.2.1 1, 12, .inl (fun _ => 0)), .inl (w.2.1 2, 10, .inr (.inr (.inr (.inr (va_up (va_up (va_up (va_up (va_up (va_up (va_up (va_up (fun _ => none) 0 (some (n + 8))) 1 (some (n + 9))) 2 (some (n + 10))) 3 (some (n + 11))) 4 (some (n + 12))) 5 (some (n + 13))) 6 (some (n + 14))) 7 (some (n + 15))))))), .inr (0, [.int 0, .int 0, .int 0, .int 0, .int 0, .int 0, .int 0, .int 0, .int 0, .int 0, .int 0]), .inr (0, [.int 0, .int 0, .int 0, .int 0, .int 0, .int 0, .int 0, .int 0, .int 0, .int 0, .int 0]), .inr (0, [.int 0, .int 0, .int 0, .int 0, .int 0, .int 0, .int 0, .int 0, .int 0, .int 0, .int 0]), .inr (0, [.int 0, .int 0, .int 0, .int 0, .int 0, .int 0, .int 0, .int 0, .int 0, .int 0, .int 0]), .inr (0, [.int 0, .int 0, .int 0, .int 0, .int 0, .int 0, .int 0, .int 0, .int 0, .int 0, .int 0]), .inr (0, [.int 0, .int 0, .int 0, .int 0, .int 0, .int 0, .int 0, .int 0, .int 0, .int 0, .int 0]), .inr (0, [.int 0, .int 0, .int 0, .int 0, .int 0, .int 0, .int 0, .int 0, .int 0, .int 0, .int 0]), .inr (0, [.int 0, .int 0, .int 0, .int 0, .int 0, .int 0, .int 0, .int 0, .int 0, .int 0, .int 0])] ++ [.inr (0, [.int 0, .int 0, .int 0, .int 0, .int 0, .int 0, .int 0, .int 0, .int 0, .int 0, .int 0])]) H := hP
  refine W.widen (k := 16) (n := 153) (Nat.le_of_ble_eq_true rfl) (Nat.le_of_ble_eq_true rfl) ?_
  refine lv_dup hx hb dX5_init_75 rfl ?_
  refine mx_IN (es := [.inr (5, [.ref (n + 1), .ref (n + 2), .ref (n + 5), .ref (n + 7), .int 0, .int 0, .int 20, .int 200]), .inr (1, [.int 0, .int 0, .int 0]), .inr (7, [.ref (n + 3), .ref (n + 4)]), .inl (w.2.1 1, 10, .inl mx_w0), .inl (w.2.1 1, 10, .inl mx_s0), .inr (4, [.ref (n + 6), .int 0, .int 0, .int 0, .int 0, .int 0, .int 0]), .inl (w.2.1 1, 12, .inl (fun _ => 0)), .inl (w.2.1 2, 10, .inr (.inr (.inr (.inr (va_up (va_up (va_up (va_up (va_up (va_up (va_up (va_up (fun _ => none) 0 (some (n + 8))) 1 (some (n + 9))) 2 (some (n + 10))) 3 (some (n + 11))) 4 (some (n + 12))) 5 (some (n + 13))) 6 (some (n + 14))) 7 (some (n + 15))))))), .inr (0, [.int 0, .int 0, .int 0, .int 0, .int 0, .int 0, .int 0, .int 0, .int 0, .int 0, .int 0]), .inr (0, [.int 0, .int 0, .int 0, .int 0, .int 0, .int 0, .int 0, .int 0, .int 0, .int 0, .int 0]), .inr (0, [.int 0, .int 0, .int 0, .int 0, .int 0, .int 0, .int 0, .int 0, .int 0, .int 0, .int 0]), .inr (0, [.int 0, .int 0, .int 0, .int 0, .int 0, .int 0, .int 0, .int 0, .int 0, .int 0, .int 0]), .inr (0, [.int 0, .int 0, .int 0, .int 0, .int 0, .int 0, .int 0, .int 0, .int 0, .int 0, .int 0]), .inr (0, [.int 0, .int 0, .int 0, .int 0, .int 0, .int 0, .int 0, .int 0, .int 0, .int 0, .int 0]), .inr (0, [.int 0, .int 0, .int 0, .int 0, .int 0, .int 0, .int 0, .int 0, .int 0, .int 0, .int 0]), .inr (0, [.int 0, .int 0, .int 0, .int 0, .int 0, .int 0, .int 0, .int 0, .int 0, .int 0, .int 0])]) (ct_X0_init l (w := w) (n + 16)) C K hP hS hl.1 K.2.1.2.2.1 wy_X0_init wd_X0_init rfl rfl rfl ⟨Nat.le_of_ble_eq_true rfl, Nat.le_of_ble_eq_true rfl⟩ (Nat.le_of_ble_eq_true rfl) ⟨Nat.le_of_ble_eq_true rfl, Nat.le_of_ble_eq_true rfl⟩ dX5_init_76 (fun H locs hP hS => ?_)
  have hP : mx_P w n ([.inr (5, [.ref (n + 1), .ref (n + 2), .ref (n + 5), .ref (n + 7), .int 0, .int 0, .int 20, .int 200]), .inr (1, [.int 0, .int 0, .int 0]), .inr (7, [.ref (n + 3), .ref (n + 4)]), .inl (w.2.1 1, 10, .inl mx_w0), .inl (w.2.1 1, 10, .inl mx_s0), .inr (4, [.ref (n + 6), .int 0, .int 0, .int 0, .int 0, .int 0, .int 0]), .inl (w.2.1 1, 12, .inl (fun _ => 0)), .inl (w.2.1 2, 10, .inr (.inr (.inr (.inr (va_up (va_up (va_up (va_up (va_up (va_up (va_up (va_up (fun _ => none) 0 (some (n + 8))) 1 (some (n + 9))) 2 (some (n + 10))) 3 (some (n + 11))) 4 (some (n + 12))) 5 (some (n + 13))) 6 (some (n + 14))) 7 (some (n + 15))))))), .inr (0, [.int 0, .int 0, .int 0, .int 0, .int 0, .int 0, .int 0, .int 0, .int 0, .int 0, .int 0]), .inr (0, [.int 0, .int 0, .int 0, .int 0, .int 0, .int 0, .int 0, .int 0, .int 0, .int 0, .int 0]), .inr (0, [.int 0, .int 0, .int 0, .int 0, .int 0, .int 0, .int 0, .int 0, .int 0, .int 0, .int 0]), .inr (0, [.int 0, .int 0, .int 0, .int 0, .int 0, .int 0, .int 0, .int 0, .int 0, .int 0, .int 0]), .inr (0, [.int 0, .int 0, .int 0, .int 0, .int 0, .int 0, .int 0, .int 0, .int 0, .int 0, .int 0]), .inr (0, [.int 0, .int 0, .int 0, .int 0, .int 0, .int 0, .int 0, .int 0, .int 0, .int 0, .int 0]), .inr (0, [.int 0, .int 0, .int 0, .int 0, .int 0, .int 0, .int 0, .int 0, .int 0, .int 0, .int 0]), .inr (0, [.int 0, .int 0, .int 0, .int 0, .int 0, .int 0, .int 0, .int 0, .int 0, .int 0, .int 0]), .inr (0, [.int 0, .int 0, .int 0, .int 0, .int 0, .int 0, .int 0, .int 0, .int 0, .int 0, .int 0])]) H := hP
  refine W.widen (k := 16) (n := 153) (Nat.le_of_ble_eq_true rfl) (Nat.le_of_ble_eq_true rfl) ?_
  refine mx_aas (k := 7) (k2 := 16) (t0 := 2) (ci := 0) (Z := 10) (r := (RX0, TX0, 11)) (f1 := (va_up (va_up (va_up (va_up (va_up (va_up (va_up (va_up (va_up (fun _ => none) 0 (some (n + 8))) 1 (some (n + 9))) 2 (some (n + 10))) 3 (some (n + 11))) 4 (some (n + 12))) 5 (some (n + 13))) 6 (some (n + 14))) 7 (some (n + 15))) 8 (some (n + 16)))) C K hP hS rfl rfl rfl rfl (by decide) rfl (by decide) dX5_init_79 (fun H locs hP hS => ?_)
  have hP : mx_P w n ([.inr (5, [.ref (n + 1), .ref (n + 2), .ref (n + 5), .ref (n + 7), .int 0, .int 0, .int 20, .int 200]), .inr (1, [.int 0, .int 0, .int 0]), .inr (7, [.ref (n + 3), .ref (n + 4)]), .inl (w.2.1 1, 10, .inl mx_w0), .inl (w.2.1 1, 10, .inl mx_s0), .inr (4, [.ref (n + 6), .int 0, .int 0, .int 0, .int 0, .int 0, .int 0]), .inl (w.2.1 1, 12, .inl (fun _ => 0)), .inl (w.2.1 2, 10, .inr (.inr (.inr (.inr (va_up (va_up (va_up (va_up (va_up (va_up (va_up (va_up (va_up (fun _ => none) 0 (some (n + 8))) 1 (some (n + 9))) 2 (some (n + 10))) 3 (some (n + 11))) 4 (some (n + 12))) 5 (some (n + 13))) 6 (some (n + 14))) 7 (some (n + 15))) 8 (some (n + 16))))))), .inr (0, [.int 0, .int 0, .int 0, .int 0, .int 0, .int 0, .int 0, .int 0, .int 0, .int 0, .int 0]), .inr (0, [.int 0, .int 0, .int 0, .int 0, .int 0, .int 0, .int 0, .int 0, .int 0, .int 0, .int 0]), .inr (0, [.int 0, .int 0, .int 0, .int 0, .int 0, .int 0, .int 0, .int 0, .int 0, .int 0, .int 0]), .inr (0, [.int 0, .int 0, .int 0, .int 0, .int 0, .int 0, .int 0, .int 0, .int 0, .int 0, .int 0]), .inr (0, [.int 0, .int 0, .int 0, .int 0, .int 0, .int 0, .int 0, .int 0, .int 0, .int 0, .int 0]), .inr (0, [.int 0, .int 0, .int 0, .int 0, .int 0, .int 0, .int 0, .int 0, .int 0, .int 0, .int 0]), .inr (0, [.int 0, .int 0, .int 0, .int 0, .int 0, .int 0, .int 0, .int 0, .int 0, .int 0, .int 0]), .inr (0, [.int 0, .int 0, .int 0, .int 0, .int 0, .int 0, .int 0, .int 0, .int 0, .int 0, .int 0]), .inr (0, [.int 0, .int 0, .int 0, .int 0, .int 0, .int 0, .int 0, .int 0, .int 0, .int 0, .int 0])]) H := hP
  refine lv_iinc (v := 9) (lv' := [(1, .int 9), (0, .ref (n + 0))]) hx hb dX5_init_80 hl (k := 0) rfl (by decide) (by decide) rfl (fun ls hl => ?_)
  refine lv_goto (tgt := 61) hx hb dX5_init_83 (by decide) ?_
  refine lv_iload_n hx hb dX5_init_61 rfl (lv_at hl 0 rfl) ?_
  refine lv_bipush (v := 10) hx hb dX5_init_62 (by decide) ?_
  refine lv_icmp_ge (tgt := 86) hx hb dX5_init_64 (by decide) (fun c => absurd c (by decide)) (fun _ => ?_)
  refine lv_aload_n hx hb dX5_init_67 rfl (lv_at hl 1 rfl) ?_
  refine mx_get (k := 0) (ci := 5) (Cn := RX5) (T := TX5) (N0 := 8) (j := 3) (v := .ref (n + 7)) C K hP rfl mc_in5 rfl (by decide) fl_X5_34 rfl rfl dX5_init_68 ?_
  refine lv_iload_n hx hb dX5_init_71 rfl (lv_at hl 0 rfl) ?_
  refine mx_new (ci := 0) (Cn := RX0) (T := TX0) (N0 := 11) (ty := tyX0) (fs := [.int 0, .int 0, .int 0, .int 0, .int 0, .int 0, .int 0, .int 0, .int 0, .int 0, .int 0]) C K hP hS mc_in0 tyX0_ok rfl cl_X5_32 wb_X0 wn_X0 (fun j hj => by rcases (show j = 0 ∨ j = 1 ∨ j = 2 ∨ j = 3 ∨ j = 4 ∨ j = 5 ∨ j = 6 ∨ j = 7 ∨ j = 8 ∨ j = 9 ∨ j = 10 by omega) with rfl | rfl | rfl | rfl | rfl | rfl | rfl | rfl | rfl | rfl | rfl <;> rfl) (Nat.le_of_ble_eq_true rfl) (Nat.le_of_ble_eq_true rfl) dX5_init_72 (fun H hP hS => ?_)
  have hP : mx_P w n ([.inr (5, [.ref (n + 1), .ref (n + 2), .ref (n + 5), .ref (n + 7), .int 0, .int 0, .int 20, .int 200]), .inr (1, [.int 0, .int 0, .int 0]), .inr (7, [.ref (n + 3), .ref (n + 4)]), .inl (w.2.1 1, 10, .inl mx_w0), .inl (w.2.1 1, 10, .inl mx_s0), .inr (4, [.ref (n + 6), .int 0, .int 0, .int 0, .int 0, .int 0, .int 0]), .inl (w.2.1 1, 12, .inl (fun _ => 0)), .inl (w.2.1 2, 10, .inr (.inr (.inr (.inr (va_up (va_up (va_up (va_up (va_up (va_up (va_up (va_up (va_up (fun _ => none) 0 (some (n + 8))) 1 (some (n + 9))) 2 (some (n + 10))) 3 (some (n + 11))) 4 (some (n + 12))) 5 (some (n + 13))) 6 (some (n + 14))) 7 (some (n + 15))) 8 (some (n + 16))))))), .inr (0, [.int 0, .int 0, .int 0, .int 0, .int 0, .int 0, .int 0, .int 0, .int 0, .int 0, .int 0]), .inr (0, [.int 0, .int 0, .int 0, .int 0, .int 0, .int 0, .int 0, .int 0, .int 0, .int 0, .int 0]), .inr (0, [.int 0, .int 0, .int 0, .int 0, .int 0, .int 0, .int 0, .int 0, .int 0, .int 0, .int 0]), .inr (0, [.int 0, .int 0, .int 0, .int 0, .int 0, .int 0, .int 0, .int 0, .int 0, .int 0, .int 0]), .inr (0, [.int 0, .int 0, .int 0, .int 0, .int 0, .int 0, .int 0, .int 0, .int 0, .int 0, .int 0]), .inr (0, [.int 0, .int 0, .int 0, .int 0, .int 0, .int 0, .int 0, .int 0, .int 0, .int 0, .int 0]), .inr (0, [.int 0, .int 0, .int 0, .int 0, .int 0, .int 0, .int 0, .int 0, .int 0, .int 0, .int 0]), .inr (0, [.int 0, .int 0, .int 0, .int 0, .int 0, .int 0, .int 0, .int 0, .int 0, .int 0, .int 0]), .inr (0, [.int 0, .int 0, .int 0, .int 0, .int 0, .int 0, .int 0, .int 0, .int 0, .int 0, .int 0])] ++ [.inr (0, [.int 0, .int 0, .int 0, .int 0, .int 0, .int 0, .int 0, .int 0, .int 0, .int 0, .int 0])]) H := hP
  refine W.widen (k := 17) (n := 164) (Nat.le_of_ble_eq_true rfl) (Nat.le_of_ble_eq_true rfl) ?_
  refine lv_dup hx hb dX5_init_75 rfl ?_
  refine mx_IN (es := [.inr (5, [.ref (n + 1), .ref (n + 2), .ref (n + 5), .ref (n + 7), .int 0, .int 0, .int 20, .int 200]), .inr (1, [.int 0, .int 0, .int 0]), .inr (7, [.ref (n + 3), .ref (n + 4)]), .inl (w.2.1 1, 10, .inl mx_w0), .inl (w.2.1 1, 10, .inl mx_s0), .inr (4, [.ref (n + 6), .int 0, .int 0, .int 0, .int 0, .int 0, .int 0]), .inl (w.2.1 1, 12, .inl (fun _ => 0)), .inl (w.2.1 2, 10, .inr (.inr (.inr (.inr (va_up (va_up (va_up (va_up (va_up (va_up (va_up (va_up (va_up (fun _ => none) 0 (some (n + 8))) 1 (some (n + 9))) 2 (some (n + 10))) 3 (some (n + 11))) 4 (some (n + 12))) 5 (some (n + 13))) 6 (some (n + 14))) 7 (some (n + 15))) 8 (some (n + 16))))))), .inr (0, [.int 0, .int 0, .int 0, .int 0, .int 0, .int 0, .int 0, .int 0, .int 0, .int 0, .int 0]), .inr (0, [.int 0, .int 0, .int 0, .int 0, .int 0, .int 0, .int 0, .int 0, .int 0, .int 0, .int 0]), .inr (0, [.int 0, .int 0, .int 0, .int 0, .int 0, .int 0, .int 0, .int 0, .int 0, .int 0, .int 0]), .inr (0, [.int 0, .int 0, .int 0, .int 0, .int 0, .int 0, .int 0, .int 0, .int 0, .int 0, .int 0]), .inr (0, [.int 0, .int 0, .int 0, .int 0, .int 0, .int 0, .int 0, .int 0, .int 0, .int 0, .int 0]), .inr (0, [.int 0, .int 0, .int 0, .int 0, .int 0, .int 0, .int 0, .int 0, .int 0, .int 0, .int 0]), .inr (0, [.int 0, .int 0, .int 0, .int 0, .int 0, .int 0, .int 0, .int 0, .int 0, .int 0, .int 0]), .inr (0, [.int 0, .int 0, .int 0, .int 0, .int 0, .int 0, .int 0, .int 0, .int 0, .int 0, .int 0]), .inr (0, [.int 0, .int 0, .int 0, .int 0, .int 0, .int 0, .int 0, .int 0, .int 0, .int 0, .int 0])]) (ct_X0_init l (w := w) (n + 17)) C K hP hS hl.1 K.2.1.2.2.1 wy_X0_init wd_X0_init rfl rfl rfl ⟨Nat.le_of_ble_eq_true rfl, Nat.le_of_ble_eq_true rfl⟩ (Nat.le_of_ble_eq_true rfl) ⟨Nat.le_of_ble_eq_true rfl, Nat.le_of_ble_eq_true rfl⟩ dX5_init_76 (fun H locs hP hS => ?_)
  have hP : mx_P w n ([.inr (5, [.ref (n + 1), .ref (n + 2), .ref (n + 5), .ref (n + 7), .int 0, .int 0, .int 20, .int 200]), .inr (1, [.int 0, .int 0, .int 0]), .inr (7, [.ref (n + 3), .ref (n + 4)]), .inl (w.2.1 1, 10, .inl mx_w0), .inl (w.2.1 1, 10, .inl mx_s0), .inr (4, [.ref (n + 6), .int 0, .int 0, .int 0, .int 0, .int 0, .int 0]), .inl (w.2.1 1, 12, .inl (fun _ => 0)), .inl (w.2.1 2, 10, .inr (.inr (.inr (.inr (va_up (va_up (va_up (va_up (va_up (va_up (va_up (va_up (va_up (fun _ => none) 0 (some (n + 8))) 1 (some (n + 9))) 2 (some (n + 10))) 3 (some (n + 11))) 4 (some (n + 12))) 5 (some (n + 13))) 6 (some (n + 14))) 7 (some (n + 15))) 8 (some (n + 16))))))), .inr (0, [.int 0, .int 0, .int 0, .int 0, .int 0, .int 0, .int 0, .int 0, .int 0, .int 0, .int 0]), .inr (0, [.int 0, .int 0, .int 0, .int 0, .int 0, .int 0, .int 0, .int 0, .int 0, .int 0, .int 0]), .inr (0, [.int 0, .int 0, .int 0, .int 0, .int 0, .int 0, .int 0, .int 0, .int 0, .int 0, .int 0]), .inr (0, [.int 0, .int 0, .int 0, .int 0, .int 0, .int 0, .int 0, .int 0, .int 0, .int 0, .int 0]), .inr (0, [.int 0, .int 0, .int 0, .int 0, .int 0, .int 0, .int 0, .int 0, .int 0, .int 0, .int 0]), .inr (0, [.int 0, .int 0, .int 0, .int 0, .int 0, .int 0, .int 0, .int 0, .int 0, .int 0, .int 0]), .inr (0, [.int 0, .int 0, .int 0, .int 0, .int 0, .int 0, .int 0, .int 0, .int 0, .int 0, .int 0]), .inr (0, [.int 0, .int 0, .int 0, .int 0, .int 0, .int 0, .int 0, .int 0, .int 0, .int 0, .int 0]), .inr (0, [.int 0, .int 0, .int 0, .int 0, .int 0, .int 0, .int 0, .int 0, .int 0, .int 0, .int 0]), .inr (0, [.int 0, .int 0, .int 0, .int 0, .int 0, .int 0, .int 0, .int 0, .int 0, .int 0, .int 0])]) H := hP
  refine W.widen (k := 17) (n := 164) (Nat.le_of_ble_eq_true rfl) (Nat.le_of_ble_eq_true rfl) ?_
  refine mx_aas (k := 7) (k2 := 17) (t0 := 2) (ci := 0) (Z := 10) (r := (RX0, TX0, 11)) (f1 := (va_up (va_up (va_up (va_up (va_up (va_up (va_up (va_up (va_up (va_up (fun _ => none) 0 (some (n + 8))) 1 (some (n + 9))) 2 (some (n + 10))) 3 (some (n + 11))) 4 (some (n + 12))) 5 (some (n + 13))) 6 (some (n + 14))) 7 (some (n + 15))) 8 (some (n + 16))) 9 (some (n + 17)))) C K hP hS rfl rfl rfl rfl (by decide) rfl (by decide) dX5_init_79 (fun H locs hP hS => ?_)
  have hP : mx_P w n ([.inr (5, [.ref (n + 1), .ref (n + 2), .ref (n + 5), .ref (n + 7), .int 0, .int 0, .int 20, .int 200]), .inr (1, [.int 0, .int 0, .int 0]), .inr (7, [.ref (n + 3), .ref (n + 4)]), .inl (w.2.1 1, 10, .inl mx_w0), .inl (w.2.1 1, 10, .inl mx_s0), .inr (4, [.ref (n + 6), .int 0, .int 0, .int 0, .int 0, .int 0, .int 0]), .inl (w.2.1 1, 12, .inl (fun _ => 0)), .inl (w.2.1 2, 10, .inr (.inr (.inr (.inr (va_up (va_up (va_up (va_up (va_up (va_up (va_up (va_up (va_up (va_up (fun _ => none) 0 (some (n + 8))) 1 (some (n + 9))) 2 (some (n + 10))) 3 (some (n + 11))) 4 (some (n + 12))) 5 (some (n + 13))) 6 (some (n + 14))) 7 (some (n + 15))) 8 (some (n + 16))) 9 (some (n + 17))))))), .inr (0, [.int 0, .int 0, .int 0, .int 0, .int 0, .int 0, .int 0, .int 0, .int 0, .int 0, .int 0]), .inr (0, [.int 0, .int 0, .int 0, .int 0, .int 0, .int 0, .int 0, .int 0, .int 0, .int 0, .int 0]), .inr (0, [.int 0, .int 0, .int 0, .int 0, .int 0, .int 0, .int 0, .int 0, .int 0, .int 0, .int 0]), .inr (0, [.int 0, .int 0, .int 0, .int 0, .int 0, .int 0, .int 0, .int 0, .int 0, .int 0, .int 0]), .inr (0, [.int 0, .int 0, .int 0, .int 0, .int 0, .int 0, .int 0, .int 0, .int 0, .int 0, .int 0]), .inr (0, [.int 0, .int 0, .int 0, .int 0, .int 0, .int 0, .int 0, .int 0, .int 0, .int 0, .int 0]), .inr (0, [.int 0, .int 0, .int 0, .int 0, .int 0, .int 0, .int 0, .int 0, .int 0, .int 0, .int 0]), .inr (0, [.int 0, .int 0, .int 0, .int 0, .int 0, .int 0, .int 0, .int 0, .int 0, .int 0, .int 0]), .inr (0, [.int 0, .int 0, .int 0, .int 0, .int 0, .int 0, .int 0, .int 0, .int 0, .int 0, .int 0]), .inr (0, [.int 0, .int 0, .int 0, .int 0, .int 0, .int 0, .int 0, .int 0, .int 0, .int 0, .int 0])]) H := hP
  refine lv_iinc (v := 10) (lv' := [(1, .int 10), (0, .ref (n + 0))]) hx hb dX5_init_80 hl (k := 0) rfl (by decide) (by decide) rfl (fun ls hl => ?_)
  refine lv_goto (tgt := 61) hx hb dX5_init_83 (by decide) ?_
  refine lv_iload_n hx hb dX5_init_61 rfl (lv_at hl 0 rfl) ?_
  refine lv_bipush (v := 10) hx hb dX5_init_62 (by decide) ?_
  refine lv_icmp_ge (tgt := 86) hx hb dX5_init_64 (by decide) (fun _ => ?_) (fun c => absurd (by decide) c)
  exact mx_ret (es1 := mx_st w n) hx hb hr hlk K hP hS dX5_init_86
theorem wy_X3_init : Cond.instanceMethod yX3_init ∈ mc_big ∧ Cond.initialized yX3_init.cls ∈ mc_big ∧ Cond.code yX3_init cX3_init 2 none ∈ mc_big := ⟨wi_X3_init, wn_X3, wc_X3_init⟩
theorem wd_X3_init : yX3_init.name = "<init>" ∧ yX3_init.cls ≠ "java/lang/invoke/MethodHandle" ∧ yX3_init.cls ≠ "java/lang/invoke/VarHandle" ∧ (parseMethodDescriptor yX3_init.desc).map (fun d => d.parameters.length) = some 0 := ⟨rfl, by decide +kernel, by decide +kernel, by decide +kernel⟩
set_option maxHeartbeats 4000000 in
set_option maxRecDepth 100000 in
theorem ct_X3_init (l : Launch) {w : mc_w} (n : Nat) : Met l yX3_init (Cond.code yX3_init cX3_init 2 none :: mc_big) ({ frames := 3, cells := 73, slots := 692, locals := 62 } : Room) (va_Pc [.ref n] (mx_B w n [.inr (3, [.null, .int 0])])) (mc_Q none (mx_B w n (mx_hi w n)) (fun q => n ≤ q)) 73 692 (fun q => n ≤ q) := by
  refine Met.ofW (cc := cX3_init) (maxL := 2) (ret := none) (by decide) rfl ?_
  intro p e s m args below meth c s₁ B hml hv
  obtain ⟨rfl, hP, K⟩ := hv
  have hown : s.vm.findClass RX3 = some m.cls := findClass_of_methodNamed B.named
  have C : CallFix p m c cX3_init 2 s _ mc_big RX3 := ⟨B.exec, B.bytes, hml, hown, fun w hw => atoms_spec B.pre w (List.mem_cons_of_mem _ hw)⟩
  have hx := C.1
  have hb := C.2.1
  have hr := B.returns
  have hlk := B.notSynchronized
  have hin : meth.name = "<init>" := (name_of_methodNamed B.named B.method).1
  have hS : va_S (fun q => n ≤ q) s.heap s.heap [] := va_S.rf
  have hl := lv_entry ([.ref (n + 0)]) (n := 2) (Nat.le_of_ble_eq_true rfl)
  show W p l e _ s m _ below meth c s.heap [] 0 0 _ (entryFrame m ([.ref (n + 0)] : List Value).toArray 2)
  rw [lg_entry_eq]
  generalize (lg_sl ([.ref (n + 0)]) ++ List.replicate (2 - (lg_sl ([.ref (n + 0)])).length) Slot.unset).toArray = ls at hl ⊢
  have hl : lv_has ls 2 [(0, .ref (n + 0))] := hl
  have hP : mx_P w n ([.inr (3, [.null, .int 0])]) s.heap := hP
  refine lv_aload_n hx hb dX3_init_0 rfl (lv_at hl 0 rfl) ?_
  refine mx_obj C hl.1 ml_X3_3 (Nat.le_of_ble_eq_true rfl) (Nat.le_of_ble_eq_true rfl) dX3_init_1 ?_
  refine lv_aload_n hx hb dX3_init_4 rfl (lv_at hl 0 rfl) ?_
  refine lv_iconst (v := 4) hx hb dX3_init_5 (by decide) ?_
  refine mx_newq (t0 := 3) (cA := w.2.1 3) (Z := 4) C K hP hS K.2.2.2 rfl cl_X3_9 (by decide) (by decide) (Nat.le_of_ble_eq_true rfl) (Nat.le_of_ble_eq_true rfl) (Nat.le_of_ble_eq_true rfl) dX3_init_6 (fun H hP hS => ?_)
  have hP : mx_P w n ([.inr (3, [.null, .int 0]), .inl (w.2.1 3, 4, .inr (.inr (.inr (.inr (fun _ => none)))))]) H := hP
  refine W.widen (k := 1) (n := 4) (Nat.le_of_ble_eq_true rfl) (Nat.le_of_ble_eq_true rfl) ?_
  refine mx_putF (k := 0) (ci := 3) (Cn := RX3) (T := TX3) (N0 := 2) (ty0 := tyX3) (ty := (.array (.object "MessengerCasts$State"))) (j := 0) C K hP hS hin rfl mc_in3 tyX3_ok nmX3 rfl (by decide) fl_X3_11 rfl rfl rfl (by decide +kernel) rfl rfl (Nat.le_of_ble_eq_true rfl) dX3_init_9 (fun H locs hP hS => ?_)
  have hP : mx_P w n ([.inr (3, [.ref (n + 1), .int 0]), .inl (w.2.1 3, 4, .inr (.inr (.inr (.inr (fun _ => none)))))]) H := hP
  refine lv_iconst (v := 0) hx hb dX3_init_12 (by decide) ?_
  refine lv_istore_n (lv' := [(1, .int 0), (0, .ref (n + 0))]) hx hb dX3_init_13 rfl hl (by decide) rfl (fun ls hl => ?_)
  refine lv_iload_n hx hb dX3_init_14 rfl (lv_at hl 0 rfl) ?_
  refine lv_iconst (v := 4) hx hb dX3_init_15 (by decide) ?_
  refine lv_icmp_ge (tgt := 38) hx hb dX3_init_16 (by decide) (fun c => absurd c (by decide)) (fun _ => ?_)
  refine lv_aload_n hx hb dX3_init_19 rfl (lv_at hl 1 rfl) ?_
  refine mx_get (k := 0) (ci := 3) (Cn := RX3) (T := TX3) (N0 := 2) (j := 0) (v := .ref (n + 1)) C K hP rfl mc_in3 rfl (by decide) fl_X3_11 rfl rfl dX3_init_20 ?_
  refine lv_iload_n hx hb dX3_init_23 rfl (lv_at hl 0 rfl) ?_
  refine mx_new (ci := 5) (Cn := RX5) (T := TX5) (N0 := 8) (ty := tyX5) (fs := [.null, .null, .null, .null, .int 0, .int 0, .int 0, .int 0]) C K hP hS mc_in5 tyX5_ok rfl cl_X3_9 wb_X5 wn_X5 (fun j hj => by rcases (show j = 0 ∨ j = 1 ∨ j = 2 ∨ j = 3 ∨ j = 4 ∨ j = 5 ∨ j = 6 ∨ j = 7 by omega) with rfl | rfl | rfl | rfl | rfl | rfl | rfl | rfl <;> rfl) (Nat.le_of_ble_eq_true rfl) (Nat.le_of_ble_eq_true rfl) dX3_init_24 (fun H hP hS => ?_)
  have hP : mx_P w n ([.inr (3, [.ref (n + 1), .int 0]), .inl (w.2.1 3, 4, .inr (.inr (.inr (.inr (fun _ => none)))))] ++ [.inr (5, [.null, .null, .null, .null, .int 0, .int 0, .int 0, .int 0])]) H := hP
  refine W.widen (k := 2) (n := 12) (Nat.le_of_ble_eq_true rfl) (Nat.le_of_ble_eq_true rfl) ?_
  refine lv_dup hx hb dX3_init_27 rfl ?_
  refine mx_I (es := [.inr (3, [.ref (n + 1), .int 0]), .inl (w.2.1 3, 4, .inr (.inr (.inr (.inr (fun _ => none)))))]) (ct_X5_init l (w := w) (n + 2)) C K hP hS hl.1 ml_X3_17 wy_X5_init wd_X5_init rfl rfl rfl ⟨Nat.le_of_ble_eq_true rfl, Nat.le_of_ble_eq_true rfl⟩ (Nat.le_of_ble_eq_true rfl) ⟨Nat.le_of_ble_eq_true rfl, Nat.le_of_ble_eq_true rfl⟩ dX3_init_28 (fun H locs hP hS => ?_)
  have hP : mx_P w n ([.inr (3, [.ref (n + 1), .int 0]), .inl (w.2.1 3, 4, .inr (.inr (.inr (.inr (fun _ => none)))))] ++ mx_st w (n + 2)) H := hP
  refine W.widen (k := 19) (n := 176) (Nat.le_of_ble_eq_true rfl) (Nat.le_of_ble_eq_true rfl) ?_
  refine mx_aas (k := 1) (k2 := 2) (t0 := 3) (ci := 5) (Z := 4) (r := (RX5, TX5, 8)) (f1 := (va_up (fun _ => none) 0 (some (n + 2)))) C K hP hS rfl rfl rfl rfl (by decide) rfl (by decide) dX3_init_31 (fun H locs hP hS => ?_)
  have hP : mx_P w n ([.inr (3, [.ref (n + 1), .int 0]), .inl (w.2.1 3, 4, .inr (.inr (.inr (.inr (va_up (fun _ => none) 0 (some (n + 2)))))))] ++ mx_st w (n + 2)) H := hP
  refine lv_iinc (v := 1) (lv' := [(1, .int 1), (0, .ref (n + 0))]) hx hb dX3_init_32 hl (k := 0) rfl (by decide) (by decide) rfl (fun ls hl => ?_)
  refine lv_goto (tgt := 14) hx hb dX3_init_35 (by decide) ?_
  refine lv_iload_n hx hb dX3_init_14 rfl (lv_at hl 0 rfl) ?_
  refine lv_iconst (v := 4) hx hb dX3_init_15 (by decide) ?_
  refine lv_icmp_ge (tgt := 38) hx hb dX3_init_16 (by decide) (fun c => absurd c (by decide)) (fun _ => ?_)
  refine lv_aload_n hx hb dX3_init_19 rfl (lv_at hl 1 rfl) ?_
  refine mx_get (k := 0) (ci := 3) (Cn := RX3) (T := TX3) (N0 := 2) (j := 0) (v := .ref (n + 1)) C K hP rfl mc_in3 rfl (by decide) fl_X3_11 rfl rfl dX3_init_20 ?_
  refine lv_iload_n hx hb dX3_init_23 rfl (lv_at hl 0 rfl) ?_
  refine mx_new (ci := 5) (Cn := RX5) (T := TX5) (N0 := 8) (ty := tyX5) (fs := [.null, .null, .null, .null, .int 0, .int 0, .int 0, .int 0]) C K hP hS mc_in5 tyX5_ok rfl cl_X3_9 wb_X5 wn_X5 (fun j hj => by rcases (show j = 0 ∨ j = 1 ∨ j = 2 ∨ j = 3 ∨ j = 4 ∨ j = 5 ∨ j = 6 ∨ j = 7 by omega) with rfl | rfl | rfl | rfl | rfl | rfl | rfl | rfl <;> rfl) (Nat.le_of_ble_eq_true rfl) (Nat.le_of_ble_eq_true rfl) dX3_init_24 (fun H hP hS => ?_)
  have hP : mx_P w n ([.inr (3, [.ref (n + 1), .int 0]), .inl (w.2.1 3, 4, .inr (.inr (.inr (.inr (va_up (fun _ => none) 0 (some (n + 2)))))))] ++ mx_st w (n + 2) ++ [.inr (5, [.null, .null, .null, .null, .int 0, .int 0, .int 0, .int 0])]) H := hP
  refine W.widen (k := 20) (n := 184) (Nat.le_of_ble_eq_true rfl) (Nat.le_of_ble_eq_true rfl) ?_
  refine lv_dup hx hb dX3_init_27 rfl ?_
  refine mx_I (es := [.inr (3, [.ref (n + 1), .int 0]), .inl (w.2.1 3, 4, .inr (.inr (.inr (.inr (va_up (fun _ => none) 0 (some (n + 2)))))))] ++ mx_st w (n + 2)) (ct_X5_init l (w := w) (n + 20)) C K hP hS hl.1 ml_X3_17 wy_X5_init wd_X5_init rfl rfl rfl ⟨Nat.le_of_ble_eq_true rfl, Nat.le_of_ble_eq_true rfl⟩ (Nat.le_of_ble_eq_true rfl) ⟨Nat.le_of_ble_eq_true rfl, Nat.le_of_ble_eq_true rfl⟩ dX3_init_28 (fun H locs hP hS => ?_)
  have hP : mx_P w n ([.inr (3, [.ref (n + 1), .int 0]), .inl (w.2.1 3, 4, .inr (.inr (.inr (.inr (va_up (fun _ => none) 0 (some (n + 2)))))))] ++ mx_st w (n + 2) ++ mx_st w (n + 20)) H := hP
  refine W.widen (k := 37) (n := 348) (Nat.le_of_ble_eq_true rfl) (Nat.le_of_ble_eq_true rfl) ?_
  refine mx_aas (k := 1) (k2 := 20) (t0 := 3) (ci := 5) (Z := 4) (r := (RX5, TX5, 8)) (f1 := (va_up (va_up (fun _ => none) 0 (some (n + 2))) 1 (some (n + 20)))) C K hP hS rfl rfl rfl rfl (by decide) rfl (by decide) dX3_init_31 (fun H locs hP hS => ?_)
  have hP : mx_P w n ([.inr (3, [.ref (n + 1), .int 0]), .inl (w.2.1 3, 4, .inr (.inr (.inr (.inr (va_up (va_up (fun _ => none) 0 (some (n + 2))) 1 (some (n + 20)))))))] ++ mx_st w (n + 2) ++ mx_st w (n + 20)) H := hP
  refine lv_iinc (v := 2) (lv' := [(1, .int 2), (0, .ref (n + 0))]) hx hb dX3_init_32 hl (k := 0) rfl (by decide) (by decide) rfl (fun ls hl => ?_)
  refine lv_goto (tgt := 14) hx hb dX3_init_35 (by decide) ?_
  refine lv_iload_n hx hb dX3_init_14 rfl (lv_at hl 0 rfl) ?_
  refine lv_iconst (v := 4) hx hb dX3_init_15 (by decide) ?_
  refine lv_icmp_ge (tgt := 38) hx hb dX3_init_16 (by decide) (fun c => absurd c (by decide)) (fun _ => ?_)
  refine lv_aload_n hx hb dX3_init_19 rfl (lv_at hl 1 rfl) ?_
  refine mx_get (k := 0) (ci := 3) (Cn := RX3) (T := TX3) (N0 := 2) (j := 0) (v := .ref (n + 1)) C K hP rfl mc_in3 rfl (by decide) fl_X3_11 rfl rfl dX3_init_20 ?_
  refine lv_iload_n hx hb dX3_init_23 rfl (lv_at hl 0 rfl) ?_
  refine mx_new (ci := 5) (Cn := RX5) (T := TX5) (N0 := 8) (ty := tyX5) (fs := [.null, .null, .null, .null, .int 0, .int 0, .int 0, .int 0]) C K hP hS mc_in5 tyX5_ok rfl cl_X3_9 wb_X5 wn_X5 (fun j hj => by rcases (show j = 0 ∨ j = 1 ∨ j = 2 ∨ j = 3 ∨ j = 4 ∨ j = 5 ∨ j = 6 ∨ j = 7 by omega) with rfl | rfl | rfl | rfl | rfl | rfl | rfl | rfl <;> rfl) (Nat.le_of_ble_eq_true rfl) (Nat.le_of_ble_eq_true rfl) dX3_init_24 (fun H hP hS => ?_)
  have hP : mx_P w n ([.inr (3, [.ref (n + 1), .int 0]), .inl (w.2.1 3, 4, .inr (.inr (.inr (.inr (va_up (va_up (fun _ => none) 0 (some (n + 2))) 1 (some (n + 20)))))))] ++ mx_st w (n + 2) ++ mx_st w (n + 20) ++ [.inr (5, [.null, .null, .null, .null, .int 0, .int 0, .int 0, .int 0])]) H := hP
  refine W.widen (k := 38) (n := 356) (Nat.le_of_ble_eq_true rfl) (Nat.le_of_ble_eq_true rfl) ?_
  refine lv_dup hx hb dX3_init_27 rfl ?_
  refine mx_I (es := [.inr (3, [.ref (n + 1), .int 0]), .inl (w.2.1 3, 4, .inr (.inr (.inr (.inr (va_up (va_up (fun _ => none) 0 (some (n + 2))) 1 (some (n + 20)))))))] ++ mx_st w (n + 2) ++ mx_st w (n + 20)) (ct_X5_init l (w := w) (n + 38)) C K hP hS hl.1 ml_X3_17 wy_X5_init wd_X5_init rfl rfl rfl ⟨Nat.le_of_ble_eq_true rfl, Nat.le_of_ble_eq_true rfl⟩ (Nat.le_of_ble_eq_true rfl) ⟨Nat.le_of_ble_eq_true rfl, Nat.le_of_ble_eq_true rfl⟩ dX3_init_28 (fun H locs hP hS => ?_)
  have hP : mx_P w n ([.inr (3, [.ref (n + 1), .int 0]), .inl (w.2.1 3, 4, .inr (.inr (.inr (.inr (va_up (va_up (fun _ => none) 0 (some (n + 2))) 1 (some (n + 20)))))))] ++ mx_st w (n + 2) ++ mx_st w (n + 20) ++ mx_st w (n + 38)) H := hP
  refine W.widen (k := 55) (n := 520) (Nat.le_of_ble_eq_true rfl) (Nat.le_of_ble_eq_true rfl) ?_
  refine mx_aas (k := 1) (k2 := 38) (t0 := 3) (ci := 5) (Z := 4) (r := (RX5, TX5, 8)) (f1 := (va_up (va_up (va_up (fun _ => none) 0 (some (n + 2))) 1 (some (n + 20))) 2 (some (n + 38)))) C K hP hS rfl rfl rfl rfl (by decide) rfl (by decide) dX3_init_31 (fun H locs hP hS => ?_)
  have hP : mx_P w n ([.inr (3, [.ref (n + 1), .int 0]), .inl (w.2.1 3, 4, .inr (.inr (.inr (.inr (va_up (va_up (va_up (fun _ => none) 0 (some (n + 2))) 1 (some (n + 20))) 2 (some (n + 38)))))))] ++ mx_st w (n + 2) ++ mx_st w (n + 20) ++ mx_st w (n + 38)) H := hP
  refine lv_iinc (v := 3) (lv' := [(1, .int 3), (0, .ref (n + 0))]) hx hb dX3_init_32 hl (k := 0) rfl (by decide) (by decide) rfl (fun ls hl => ?_)
  refine lv_goto (tgt := 14) hx hb dX3_init_35 (by decide) ?_
  refine lv_iload_n hx hb dX3_init_14 rfl (lv_at hl 0 rfl) ?_
  refine lv_iconst (v := 4) hx hb dX3_init_15 (by decide) ?_
  refine lv_icmp_ge (tgt := 38) hx hb dX3_init_16 (by decide) (fun c => absurd c (by decide)) (fun _ => ?_)
  refine lv_aload_n hx hb dX3_init_19 rfl (lv_at hl 1 rfl) ?_
  refine mx_get (k := 0) (ci := 3) (Cn := RX3) (T := TX3) (N0 := 2) (j := 0) (v := .ref (n + 1)) C K hP rfl mc_in3 rfl (by decide) fl_X3_11 rfl rfl dX3_init_20 ?_
  refine lv_iload_n hx hb dX3_init_23 rfl (lv_at hl 0 rfl) ?_
  refine mx_new (ci := 5) (Cn := RX5) (T := TX5) (N0 := 8) (ty := tyX5) (fs := [.null, .null, .null, .null, .int 0, .int 0, .int 0, .int 0]) C K hP hS mc_in5 tyX5_ok rfl cl_X3_9 wb_X5 wn_X5 (fun j hj => by rcases (show j = 0 ∨ j = 1 ∨ j = 2 ∨ j = 3 ∨ j = 4 ∨ j = 5 ∨ j = 6 ∨ j = 7 by omega) with rfl | rfl | rfl | rfl | rfl | rfl | rfl | rfl <;> rfl) (Nat.le_of_ble_eq_true rfl) (Nat.le_of_ble_eq_true rfl) dX3_init_24 (fun H hP hS => ?_)
  have hP : mx_P w n ([.inr (3, [.ref (n + 1), .int 0]), .inl (w.2.1 3, 4, .inr (.inr (.inr (.inr (va_up (va_up (va_up (fun _ => none) 0 (some (n + 2))) 1 (some (n + 20))) 2 (some (n + 38)))))))] ++ mx_st w (n + 2) ++ mx_st w (n + 20) ++ mx_st w (n + 38) ++ [.inr (5, [.null, .null, .null, .null, .int 0, .int 0, .int 0, .int 0])]) H := hP
  refine W.widen (k := 56) (n := 528) (Nat.le_of_ble_eq_true rfl) (Nat.le_of_ble_eq_true rfl) ?_
  refine lv_dup hx hb dX3_init_27 rfl ?_
  refine mx_I (es := [.inr (3, [.ref (n + 1), .int 0]), .inl (w.2.1 3, 4, .inr (.inr (.inr (.inr (va_up (va_up (va_up (fun _ => none) 0 (some (n + 2))) 1 (some (n + 20))) 2 (some (n + 38)))))))] ++ mx_st w (n + 2) ++ mx_st w (n + 20) ++ mx_st w (n + 38)) (ct_X5_init l (w := w) (n + 56)) C K hP hS hl.1 ml_X3_17 wy_X5_init wd_X5_init rfl rfl rfl ⟨Nat.le_of_ble_eq_true rfl, Nat.le_of_ble_eq_true rfl⟩ (Nat.le_of_ble_eq_true rfl) ⟨Nat.le_of_ble_eq_true rfl, Nat.le_of_ble_eq_true rfl⟩ dX3_init_28 (fun H locs hP hS => ?_)
  have hP : mx_P w n ([.inr (3, [.ref (n + 1), .int 0]), .inl (w.2.1 3, 4, .inr (.inr (.inr (.inr (va_up (va_up (va_up (fun _ => none) 0 (some (n + 2))) 1 (some (n + 20))) 2 (some (n + 38)))))))] ++ mx_st w (n + 2) ++ mx_st w (n + 20) ++ mx_st w (n + 38) ++ mx_st w (n + 56)) H := hP
  refine W.widen (k := 73) (n := 692) (Nat.le_of_ble_eq_true rfl) (Nat.le_of_ble_eq_true rfl) ?_
  refine mx_aas (k := 1) (k2 := 56) (t0 := 3) (ci := 5) (Z := 4) (r := (RX5, TX5, 8)) (f1 := (va_up (va_up (va_up (va_up (fun _ => none) 0 (some (n + 2))) 1 (some (n + 20))) 2 (some (n + 38))) 3 (some (n + 56)))) C K hP hS rfl rfl rfl rfl (by decide) rfl (by decide) dX3_init_31 (fun H locs hP hS => ?_)
  have hP : mx_P w n ([.inr (3, [.ref (n + 1), .int 0]), .inl (w.2.1 3, 4, .inr (.inr (.inr (.inr (va_up (va_up (va_up (va_up (fun _ => none) 0 (some (n + 2))) 1 (some (n + 20))) 2 (some (n + 38))) 3 (some (n + 56)))))))] ++ mx_st w (n + 2) ++ mx_st w (n + 20) ++ mx_st w (n + 38) ++ mx_st w (n + 56)) H := hP
  refine lv_iinc (v := 4) (lv' := [(1, .int 4), (0, .ref (n + 0))]) hx hb dX3_init_32 hl (k := 0) rfl (by decide) (by decide) rfl (fun ls hl => ?_)
  refine lv_goto (tgt := 14) hx hb dX3_init_35 (by decide) ?_
  refine lv_iload_n hx hb dX3_init_14 rfl (lv_at hl 0 rfl) ?_
  refine lv_iconst (v := 4) hx hb dX3_init_15 (by decide) ?_
  refine lv_icmp_ge (tgt := 38) hx hb dX3_init_16 (by decide) (fun _ => ?_) (fun c => absurd (by decide) c)
  exact mx_ret (es1 := mx_hi w n) hx hb hr hlk K hP hS dX3_init_38
theorem wy_X6_init : Cond.instanceMethod yX6_init ∈ mc_big ∧ Cond.initialized yX6_init.cls ∈ mc_big ∧ Cond.code yX6_init cX6_init 1 none ∈ mc_big := ⟨wi_X6_init, wn_X6, wc_X6_init⟩
theorem wd_X6_init : yX6_init.name = "<init>" ∧ yX6_init.cls ≠ "java/lang/invoke/MethodHandle" ∧ yX6_init.cls ≠ "java/lang/invoke/VarHandle" ∧ (parseMethodDescriptor yX6_init.desc).map (fun d => d.parameters.length) = some 0 := ⟨rfl, by decide +kernel, by decide +kernel, by decide +kernel⟩
set_option maxHeartbeats 4000000 in
set_option maxRecDepth 100000 in
theorem ct_X6_init (l : Launch) {w : mc_w} (n : Nat) : Met l yX6_init (Cond.code yX6_init cX6_init 1 none :: mc_big) ({ frames := 1, cells := 1, slots := 60, locals := 20 } : Room) (va_Pc [.ref n] (mx_B w n [.inr (6, [.null, .int 0])])) (mc_Q none (mx_B w n ([.inr (6, [.ref (n + 1), .int 0]), .inl (w.2.1 0, 60, .inl (fun _ => 0))])) (fun q => n ≤ q)) 1 60 (fun q => n ≤ q) := by
  refine Met.ofW (cc := cX6_init) (maxL := 1) (ret := none) (by decide) rfl ?_
  intro p e s m args below meth c s₁ B hml hv
  obtain ⟨rfl, hP, K⟩ := hv
  have hown : s.vm.findClass RX6 = some m.cls := findClass_of_methodNamed B.named
  have C : CallFix p m c cX6_init 1 s _ mc_big RX6 := ⟨B.exec, B.bytes, hml, hown, fun w hw => atoms_spec B.pre w (List.mem_cons_of_mem _ hw)⟩
  have hx := C.1
  have hb := C.2.1
  have hr := B.returns
  have hlk := B.notSynchronized
  have hin : meth.name = "<init>" := (name_of_methodNamed B.named B.method).1
  have hS : va_S (fun q => n ≤ q) s.heap s.heap [] := va_S.rf
  have hl := lv_entry ([.ref (n + 0)]) (n := 1) (Nat.le_of_ble_eq_true rfl)
  show W p l e _ s m _ below meth c s.heap [] 0 0 _ (entryFrame m ([.ref (n + 0)] : List Value).toArray 1)
  rw [lg_entry_eq]
  generalize (lg_sl ([.ref (n + 0)]) ++ List.replicate (1 - (lg_sl ([.ref (n + 0)])).length) Slot.unset).toArray = ls at hl ⊢
  have hl : lv_has ls 1 [(0, .ref (n + 0))] := hl
  have hP : mx_P w n ([.inr (6, [.null, .int 0])]) s.heap := hP
  refine lv_aload_n hx hb dX6_init_0 rfl (lv_at hl 0 rfl) ?_
  refine mx_obj C hl.1 ml_X6_3 (Nat.le_of_ble_eq_true rfl) (Nat.le_of_ble_eq_true rfl) dX6_init_1 ?_
  refine lv_aload_n hx hb dX6_init_4 rfl (lv_at hl 0 rfl) ?_
  refine lv_bipush (v := 60) hx hb dX6_init_5 (by decide) ?_
  refine mx_newa (atype := .char) (t0 := 0) (ty := .char) (cA := w.2.1 0) (Z := 60) C K hP hS rfl rfl (Or.inr rfl) wa_char (by decide) (by decide) (Nat.le_of_ble_eq_true rfl) (Nat.le_of_ble_eq_true rfl) (Nat.le_of_ble_eq_true rfl) dX6_init_7 (fun H hP hS => ?_)
  have hP : mx_P w n ([.inr (6, [.null, .int 0]), .inl (w.2.1 0, 60, .inl (fun _ => 0))]) H := hP
  refine W.widen (k := 1) (n := 60) (Nat.le_of_ble_eq_true rfl) (Nat.le_of_ble_eq_true rfl) ?_
  refine mx_putF (k := 0) (ci := 6) (Cn := RX6) (T := TX6) (N0 := 2) (ty0 := tyX6) (ty := (.array .char)) (j := 0) C K hP hS hin rfl mc_in6 tyX6_ok nmX6 rfl (by decide) fl_X6_9 rfl rfl rfl (by decide +kernel) rfl rfl (Nat.le_of_ble_eq_true rfl) dX6_init_9 (fun H locs hP hS => ?_)
  have hP : mx_P w n ([.inr (6, [.ref (n + 1), .int 0]), .inl (w.2.1 0, 60, .inl (fun _ => 0))]) H := hP
  exact mx_ret (es1 := [.inr (6, [.ref (n + 1), .int 0]), .inl (w.2.1 0, 60, .inl (fun _ => 0))]) hx hb hr hlk K hP hS dX6_init_12
theorem wy_X2_init : Cond.instanceMethod yX2_init ∈ mc_big ∧ Cond.initialized yX2_init.cls ∈ mc_big ∧ Cond.code yX2_init cX2_init 1 none ∈ mc_big := ⟨wi_X2_init, wn_X2, wc_X2_init⟩
theorem wd_X2_init : yX2_init.name = "<init>" ∧ yX2_init.cls ≠ "java/lang/invoke/MethodHandle" ∧ yX2_init.cls ≠ "java/lang/invoke/VarHandle" ∧ (parseMethodDescriptor yX2_init.desc).map (fun d => d.parameters.length) = some 0 := ⟨rfl, by decide +kernel, by decide +kernel, by decide +kernel⟩
set_option maxHeartbeats 4000000 in
set_option maxRecDepth 100000 in
theorem ct_X2_init (l : Launch) {w : mc_w} (n : Nat) : Met l yX2_init (Cond.code yX2_init cX2_init 1 none :: mc_big) ({ frames := 1, cells := 2, slots := 120, locals := 20 } : Room) (va_Pc [.ref n] (mx_B w n [.inr (2, [.null, .null, .int 0, .int 0])])) (mc_Q none (mx_B w n ([.inr (2, [.ref (n + 1), .ref (n + 2), .int 0, .int 0]), .inl (w.2.1 0, 60, .inl (fun _ => 0)), .inl (w.2.1 1, 60, .inl (fun _ => 0))])) (fun q => n ≤ q)) 2 120 (fun q => n ≤ q) := by
  refine Met.ofW (cc := cX2_init) (maxL := 1) (ret := none) (by decide) rfl ?_
  intro p e s m args below meth c s₁ B hml hv
  obtain ⟨rfl, hP, K⟩ := hv
  have hown : s.vm.findClass RX2 = some m.cls := findClass_of_methodNamed B.named
  have C : CallFix p m c cX2_init 1 s _ mc_big RX2 := ⟨B.exec, B.bytes, hml, hown, fun w hw => atoms_spec B.pre w (List.mem_cons_of_mem _ hw)⟩
  have hx := C.1
  have hb := C.2.1
  have hr := B.returns
  have hlk := B.notSynchronized
  have hin : meth.name = "<init>" := (name_of_methodNamed B.named B.method).1
  have hS : va_S (fun q => n ≤ q) s.heap s.heap [] := va_S.rf
  have hl := lv_entry ([.ref (n + 0)]) (n := 1) (Nat.le_of_ble_eq_true rfl)
  show W p l e _ s m _ below meth c s.heap [] 0 0 _ (entryFrame m ([.ref (n + 0)] : List Value).toArray 1)
  rw [lg_entry_eq]
  generalize (lg_sl ([.ref (n + 0)]) ++ List.replicate (1 - (lg_sl ([.ref (n + 0)])).length) Slot.unset).toArray = ls at hl ⊢
  have hl : lv_has ls 1 [(0, .ref (n + 0))] := hl
  have hP : mx_P w n ([.inr (2, [.null, .null, .int 0, .int 0])]) s.heap := hP
  refine lv_aload_n hx hb dX2_init_0 rfl (lv_at hl 0 rfl) ?_
  refine mx_obj C hl.1 ml_X2_3 (Nat.le_of_ble_eq_true rfl) (Nat.le_of_ble_eq_true rfl) dX2_init_1 ?_
  refine lv_aload_n hx hb dX2_init_4 rfl (lv_at hl 0 rfl) ?_
  refine lv_bipush (v := 60) hx hb dX2_init_5 (by decide) ?_
  refine mx_newa (atype := .char) (t0 := 0) (ty := .char) (cA := w.2.1 0) (Z := 60) C K hP hS rfl rfl (Or.inr rfl) wa_char (by decide) (by decide) (Nat.le_of_ble_eq_true rfl) (Nat.le_of_ble_eq_true rfl) (Nat.le_of_ble_eq_true rfl) dX2_init_7 (fun H hP hS => ?_)
  have hP : mx_P w n ([.inr (2, [.null, .null, .int 0, .int 0]), .inl (w.2.1 0, 60, .inl (fun _ => 0))]) H := hP
  refine W.widen (k := 1) (n := 60) (Nat.le_of_ble_eq_true rfl) (Nat.le_of_ble_eq_true rfl) ?_
  refine mx_putF (k := 0) (ci := 2) (Cn := RX2) (T := TX2) (N0 := 4) (ty0 := tyX2) (ty := (.array .char)) (j := 0) C K hP hS hin rfl mc_in2 tyX2_ok nmX2 rfl (by decide) fl_X2_9 rfl rfl rfl (by decide +kernel) rfl rfl (Nat.le_of_ble_eq_true rfl) dX2_init_9 (fun H locs hP hS => ?_)
  have hP : mx_P w n ([.inr (2, [.ref (n + 1), .null, .int 0, .int 0]), .inl (w.2.1 0, 60, .inl (fun _ => 0))]) H := hP
  refine lv_aload_n hx hb dX2_init_12 rfl (lv_at hl 0 rfl) ?_
  refine lv_bipush (v := 60) hx hb dX2_init_13 (by decide) ?_
  refine mx_newa (atype := .int) (t0 := 1) (ty := .int) (cA := w.2.1 1) (Z := 60) C K hP hS rfl rfl (Or.inl rfl) wa_int (by decide) (by decide) (Nat.le_of_ble_eq_true rfl) (Nat.le_of_ble_eq_true rfl) (Nat.le_of_ble_eq_true rfl) dX2_init_15 (fun H hP hS => ?_)
  have hP : mx_P w n ([.inr (2, [.ref (n + 1), .null, .int 0, .int 0]), .inl (w.2.1 0, 60, .inl (fun _ => 0)), .inl (w.2.1 1, 60, .inl (fun _ => 0))]) H := hP
  refine W.widen (k := 2) (n := 120) (Nat.le_of_ble_eq_true rfl) (Nat.le_of_ble_eq_true rfl) ?_
  refine mx_putF (k := 0) (ci := 2) (Cn := RX2) (T := TX2) (N0 := 4) (ty0 := tyX2) (ty := (.array .int)) (j := 1) C K hP hS hin rfl mc_in2 tyX2_ok nmX2 rfl (by decide) fl_X2_15 rfl rfl rfl (by decide +kernel) rfl rfl (Nat.le_of_ble_eq_true rfl) dX2_init_17 (fun H locs hP hS => ?_)
  have hP : mx_P w n ([.inr (2, [.ref (n + 1), .ref (n + 2), .int 0, .int 0]), .inl (w.2.1 0, 60, .inl (fun _ => 0)), .inl (w.2.1 1, 60, .inl (fun _ => 0))]) H := hP
  exact mx_ret (es1 := [.inr (2, [.ref (n + 1), .ref (n + 2), .int 0, .int 0]), .inl (w.2.1 0, 60, .inl (fun _ => 0)), .inl (w.2.1 1, 60, .inl (fun _ => 0))]) hx hb hr hlk K hP hS dX2_init_20
theorem wy_X8_init : Cond.instanceMethod yX8_init ∈ mc_big ∧ Cond.initialized yX8_init.cls ∈ mc_big ∧ Cond.code yX8_init cX8_init 1 none ∈ mc_big := ⟨wi_X8_init, wn_X8, wc_X8_init⟩
theorem wd_X8_init : yX8_init.name = "<init>" ∧ yX8_init.cls ≠ "java/lang/invoke/MethodHandle" ∧ yX8_init.cls ≠ "java/lang/invoke/VarHandle" ∧ (parseMethodDescriptor yX8_init.desc).map (fun d => d.parameters.length) = some 0 := ⟨rfl, by decide +kernel, by decide +kernel, by decide +kernel⟩
set_option maxHeartbeats 4000000 in
set_option maxRecDepth 100000 in
theorem ct_X8_init (l : Launch) {w : mc_w} (n : Nat) : Met l yX8_init (Cond.code yX8_init cX8_init 1 none :: mc_big) ({ frames := 4, cells := 151, slots := 1568, locals := 83 } : Room) (va_Pc [.ref n] (mx_B w n [.inr (8, [.null, .null, .null, .null, .int 0, .null, .null, .null, .int 0, .int 0, .int 0])])) (mc_Q none (mx_B w n (mx_ma w n)) (fun q => n ≤ q)) 151 1568 (fun q => n ≤ q) := by
  refine Met.ofW (cc := cX8_init) (maxL := 1) (ret := none) (by decide) rfl ?_
  intro p e s m args below meth c s₁ B hml hv
  obtain ⟨rfl, hP, K⟩ := hv
  have hown : s.vm.findClass RX8 = some m.cls := findClass_of_methodNamed B.named
  have C : CallFix p m c cX8_init 1 s _ mc_big RX8 := ⟨B.exec, B.bytes, hml, hown, fun w hw => atoms_spec B.pre w (List.mem_cons_of_mem _ hw)⟩
  have hx := C.1
  have hb := C.2.1
  have hr := B.returns
  have hlk := B.notSynchronized
  have hin : meth.name = "<init>" := (name_of_methodNamed B.named B.method).1
  have hS : va_S (fun q => n ≤ q) s.heap s.heap [] := va_S.rf
  have hl := lv_entry ([.ref (n + 0)]) (n := 1) (Nat.le_of_ble_eq_true rfl)
  show W p l e _ s m _ below meth c s.heap [] 0 0 _ (entryFrame m ([.ref (n + 0)] : List Value).toArray 1)
  rw [lg_entry_eq]
  generalize (lg_sl ([.ref (n + 0)]) ++ List.replicate (1 - (lg_sl ([.ref (n + 0)])).length) Slot.unset).toArray = ls at hl ⊢
  have hl : lv_has ls 1 [(0, .ref (n + 0))] := hl
  have hP : mx_P w n ([.inr (8, [.null, .null, .null, .null, .int 0, .null, .null, .null, .int 0, .int 0, .int 0])]) s.heap := hP
  refine lv_aload_n hx hb dX8_init_0 rfl (lv_at hl 0 rfl) ?_
  refine mx_obj C hl.1 ml_X8_1 (Nat.le_of_ble_eq_true rfl) (Nat.le_of_ble_eq_true rfl) dX8_init_1 ?_
  refine lv_aload_n hx hb dX8_init_4 rfl (lv_at hl 0 rfl) ?_
  refine mx_new (ci := 5) (Cn := RX5) (T := TX5) (N0 := 8) (ty := tyX5) (fs := [.null, .null, .null, .null, .int 0, .int 0, .int 0, .int 0]) C K hP hS mc_in5 tyX5_ok rfl cl_X8_7 wb_X5 wn_X5 (fun j hj => by rcases (show j = 0 ∨ j = 1 ∨ j = 2 ∨ j = 3 ∨ j = 4 ∨ j = 5 ∨ j = 6 ∨ j = 7 by omega) with rfl | rfl | rfl | rfl | rfl | rfl | rfl | rfl <;> rfl) (Nat.le_of_ble_eq_true rfl) (Nat.le_of_ble_eq_true rfl) dX8_init_5 (fun H hP hS => ?_)
  have hP : mx_P w n ([.inr (8, [.null, .null, .null, .null, .int 0, .null, .null, .null, .int 0, .int 0, .int 0])] ++ [.inr (5, [.null, .null, .null, .null, .int 0, .int 0, .int 0, .int 0])]) H := hP
  refine W.widen (k := 1) (n := 8) (Nat.le_of_ble_eq_true rfl) (Nat.le_of_ble_eq_true rfl) ?_
  refine lv_dup hx hb dX8_init_8 rfl ?_
  refine mx_I (es := [.inr (8, [.null, .null, .null, .null, .int 0, .null, .null, .null, .int 0, .int 0, .int 0])]) (ct_X5_init l (w := w) (n + 1)) C K hP hS hl.1 ml_X8_9 wy_X5_init wd_X5_init rfl rfl rfl ⟨Nat.le_of_ble_eq_true rfl, Nat.le_of_ble_eq_true rfl⟩ (Nat.le_of_ble_eq_true rfl) ⟨Nat.le_of_ble_eq_true rfl, Nat.le_of_ble_eq_true rfl⟩ dX8_init_9 (fun H locs hP hS => ?_)
  have hP : mx_P w n ([.inr (8, [.null, .null, .null, .null, .int 0, .null, .null, .null, .int 0, .int 0, .int 0])] ++ mx_st w (n + 1)) H := hP
  refine W.widen (k := 18) (n := 172) (Nat.le_of_ble_eq_true rfl) (Nat.le_of_ble_eq_true rfl) ?_
  refine mx_putF (k := 0) (ci := 8) (Cn := RX8) (T := TX8) (N0 := 11) (ty0 := tyX8) (ty := (.object "MessengerCasts$State")) (j := 0) C K hP hS hin rfl mc_in8 tyX8_ok nmX8 rfl (by decide) fl_X8_10 rfl rfl rfl (by decide +kernel) rfl rfl (Nat.le_of_ble_eq_true rfl) dX8_init_12 (fun H locs hP hS => ?_)
  have hP : mx_P w n ([.inr (8, [.ref (n + 1), .null, .null, .null, .int 0, .null, .null, .null, .int 0, .int 0, .int 0])] ++ mx_st w (n + 1)) H := hP
  refine lv_aload_n hx hb dX8_init_15 rfl (lv_at hl 0 rfl) ?_
  refine mx_new (ci := 5) (Cn := RX5) (T := TX5) (N0 := 8) (ty := tyX5) (fs := [.null, .null, .null, .null, .int 0, .int 0, .int 0, .int 0]) C K hP hS mc_in5 tyX5_ok rfl cl_X8_7 wb_X5 wn_X5 (fun j hj => by rcases (show j = 0 ∨ j = 1 ∨ j = 2 ∨ j = 3 ∨ j = 4 ∨ j = 5 ∨ j = 6 ∨ j = 7 by omega) with rfl | rfl | rfl | rfl | rfl | rfl | rfl | rfl <;> rfl) (Nat.le_of_ble_eq_true rfl) (Nat.le_of_ble_eq_true rfl) dX8_init_16 (fun H hP hS => ?_)
  have hP : mx_P w n ([.inr (8, [.ref (n + 1), .null, .null, .null, .int 0, .null, .null, .null, .int 0, .int 0, .int 0])] ++ mx_st w (n + 1) ++ [.inr (5, [.null, .null, .null, .null, .int 0, .int 0, .int 0, .int 0])]) H := hP
  refine W.widen (k := 19) (n := 180) (Nat.le_of_ble_eq_true rfl) (Nat.le_of_ble_eq_true rfl) ?_
  refine lv_dup hx hb dX8_init_19 rfl ?_
  refine mx_I (es := [.inr (8, [.ref (n + 1), .null, .null, .null, .int 0, .null, .null, .null, .int 0, .int 0, .int 0])] ++ mx_st w (n + 1)) (ct_X5_init l (w := w) (n + 19)) C K hP hS hl.1 ml_X8_9 wy_X5_init wd_X5_init rfl rfl rfl ⟨Nat.le_of_ble_eq_true rfl, Nat.le_of_ble_eq_true rfl⟩ (Nat.le_of_ble_eq_true rfl) ⟨Nat.le_of_ble_eq_true rfl, Nat.le_of_ble_eq_true rfl⟩ dX8_init_20 (fun H locs hP hS => ?_)
  have hP : mx_P w n ([.inr (8, [.ref (n + 1), .null, .null, .null, .int 0, .null, .null, .null, .int 0, .int 0, .int 0])] ++ mx_st w (n + 1) ++ mx_st w (n + 19)) H := hP
  refine W.widen (k := 36) (n := 344) (Nat.le_of_ble_eq_true rfl) (Nat.le_of_ble_eq_true rfl) ?_
  refine mx_putF (k := 0) (ci := 8) (Cn := RX8) (T := TX8) (N0 := 11) (ty0 := tyX8) (ty := (.object "MessengerCasts$State")) (j := 1) C K hP hS hin rfl mc_in8 tyX8_ok nmX8 rfl (by decide) fl_X8_16 rfl rfl rfl (by decide +kernel) rfl rfl (Nat.le_of_ble_eq_true rfl) dX8_init_23 (fun H locs hP hS => ?_)
  have hP : mx_P w n ([.inr (8, [.ref (n + 1), .ref (n + 19), .null, .null, .int 0, .null, .null, .null, .int 0, .int 0, .int 0])] ++ mx_st w (n + 1) ++ mx_st w (n + 19)) H := hP
  refine lv_aload_n hx hb dX8_init_26 rfl (lv_at hl 0 rfl) ?_
  refine mx_new (ci := 5) (Cn := RX5) (T := TX5) (N0 := 8) (ty := tyX5) (fs := [.null, .null, .null, .null, .int 0, .int 0, .int 0, .int 0]) C K hP hS mc_in5 tyX5_ok rfl cl_X8_7 wb_X5 wn_X5 (fun j hj => by rcases (show j = 0 ∨ j = 1 ∨ j = 2 ∨ j = 3 ∨ j = 4 ∨ j = 5 ∨ j = 6 ∨ j = 7 by omega) with rfl | rfl | rfl | rfl | rfl | rfl | rfl | rfl <;> rfl) (Nat.le_of_ble_eq_true rfl) (Nat.le_of_ble_eq_true rfl) dX8_init_27 (fun H hP hS => ?_)
  have hP : mx_P w n ([.inr (8, [.ref (n + 1), .ref (n + 19), .null, .null, .int 0, .null, .null, .null, .int 0, .int 0, .int 0])] ++ mx_st w (n + 1) ++ mx_st w (n + 19) ++ [.inr (5, [.null, .null, .null, .null, .int 0, .int 0, .int 0, .int 0])]) H := hP
  refine W.widen (k := 37) (n := 352) (Nat.le_of_ble_eq_true rfl) (Nat.le_of_ble_eq_true rfl) ?_
  refine lv_dup hx hb dX8_init_30 rfl ?_
  refine mx_I (es := [.inr (8, [.ref (n + 1), .ref (n + 19), .null, .null, .int 0, .null, .null, .null, .int 0, .int 0, .int 0])] ++ mx_st w (n + 1) ++ mx_st w (n + 19)) (ct_X5_init l (w := w) (n + 37)) C K hP hS hl.1 ml_X8_9 wy_X5_init wd_X5_init rfl rfl rfl ⟨Nat.le_of_ble_eq_true rfl, Nat.le_of_ble_eq_true rfl⟩ (Nat.le_of_ble_eq_true rfl) ⟨Nat.le_of_ble_eq_true rfl, Nat.le_of_ble_eq_true rfl⟩ dX8_init_31 (fun H locs hP hS => ?_)
  have hP : mx_P w n ([.inr (8, [.ref (n + 1), .ref (n + 19), .null, .null, .int 0, .null, .null, .null, .int 0, .int 0, .int 0])] ++ mx_st w (n + 1) ++ mx_st w (n + 19) ++ mx_st w (n + 37)) H := hP
  refine W.widen (k := 54) (n := 516) (Nat.le_of_ble_eq_true rfl) (Nat.le_of_ble_eq_true rfl) ?_
  refine mx_putF (k := 0) (ci := 8) (Cn := RX8) (T := TX8) (N0 := 11) (ty0 := tyX8) (ty := (.object "MessengerCasts$State")) (j := 2) C K hP hS hin rfl mc_in8 tyX8_ok nmX8 rfl (by decide) fl_X8_19 rfl rfl rfl (by decide +kernel) rfl rfl (Nat.le_of_ble_eq_true rfl) dX8_init_34 (fun H locs hP hS => ?_)
  have hP : mx_P w n ([.inr (8, [.ref (n + 1), .ref (n + 19), .ref (n + 37), .null, .int 0, .null, .null, .null, .int 0, .int 0, .int 0])] ++ mx_st w (n + 1) ++ mx_st w (n + 19) ++ mx_st w (n + 37)) H := hP
  refine lv_aload_n hx hb dX8_init_37 rfl (lv_at hl 0 rfl) ?_
  refine mx_new (ci := 5) (Cn := RX5) (T := TX5) (N0 := 8) (ty := tyX5) (fs := [.null, .null, .null, .null, .int 0, .int 0, .int 0, .int 0]) C K hP hS mc_in5 tyX5_ok rfl cl_X8_7 wb_X5 wn_X5 (fun j hj => by rcases (show j = 0 ∨ j = 1 ∨ j = 2 ∨ j = 3 ∨ j = 4 ∨ j = 5 ∨ j = 6 ∨ j = 7 by omega) with rfl | rfl | rfl | rfl | rfl | rfl | rfl | rfl <;> rfl) (Nat.le_of_ble_eq_true rfl) (Nat.le_of_ble_eq_true rfl) dX8_init_38 (fun H hP hS => ?_)
  have hP : mx_P w n ([.inr (8, [.ref (n + 1), .ref (n + 19), .ref (n + 37), .null, .int 0, .null, .null, .null, .int 0, .int 0, .int 0])] ++ mx_st w (n + 1) ++ mx_st w (n + 19) ++ mx_st w (n + 37) ++ [.inr (5, [.null, .null, .null, .null, .int 0, .int 0, .int 0, .int 0])]) H := hP
  refine W.widen (k := 55) (n := 524) (Nat.le_of_ble_eq_true rfl) (Nat.le_of_ble_eq_true rfl) ?_
  refine lv_dup hx hb dX8_init_41 rfl ?_
  refine mx_I (es := [.inr (8, [.ref (n + 1), .ref (n + 19), .ref (n + 37), .null, .int 0, .null, .null, .null, .int 0, .int 0, .int 0])] ++ mx_st w (n + 1) ++ mx_st w (n + 19) ++ mx_st w (n + 37)) (ct_X5_init l (w := w) (n + 55)) C K hP hS hl.1 ml_X8_9 wy_X5_init wd_X5_init rfl rfl rfl ⟨Nat.le_of_ble_eq_true rfl, Nat.le_of_ble_eq_true rfl⟩ (Nat.le_of_ble_eq_true rfl) ⟨Nat.le_of_ble_eq_true rfl, Nat.le_of_ble_eq_true rfl⟩ dX8_init_42 (fun H locs hP hS => ?_)
  have hP : mx_P w n ([.inr (8, [.ref (n + 1), .ref (n + 19), .ref (n + 37), .null, .int 0, .null, .null, .null, .int 0, .int 0, .int 0])] ++ mx_st w (n + 1) ++ mx_st w (n + 19) ++ mx_st w (n + 37) ++ mx_st w (n + 55)) H := hP
  refine W.widen (k := 72) (n := 688) (Nat.le_of_ble_eq_true rfl) (Nat.le_of_ble_eq_true rfl) ?_
  refine mx_putF (k := 0) (ci := 8) (Cn := RX8) (T := TX8) (N0 := 11) (ty0 := tyX8) (ty := (.object "MessengerCasts$State")) (j := 3) C K hP hS hin rfl mc_in8 tyX8_ok nmX8 rfl (by decide) fl_X8_22 rfl rfl rfl (by decide +kernel) rfl rfl (Nat.le_of_ble_eq_true rfl) dX8_init_45 (fun H locs hP hS => ?_)
  have hP : mx_P w n ([.inr (8, [.ref (n + 1), .ref (n + 19), .ref (n + 37), .ref (n + 55), .int 0, .null, .null, .null, .int 0, .int 0, .int 0])] ++ mx_st w (n + 1) ++ mx_st w (n + 19) ++ mx_st w (n + 37) ++ mx_st w (n + 55)) H := hP
  refine lv_aload_n hx hb dX8_init_48 rfl (lv_at hl 0 rfl) ?_
  refine mx_new (ci := 3) (Cn := RX3) (T := TX3) (N0 := 2) (ty := tyX3) (fs := [.null, .int 0]) C K hP hS mc_in3 tyX3_ok rfl cl_X8_25 wb_X3 wn_X3 (fun j hj => by rcases (show j = 0 ∨ j = 1 by omega) with rfl | rfl <;> rfl) (Nat.le_of_ble_eq_true rfl) (Nat.le_of_ble_eq_true rfl) dX8_init_49 (fun H hP hS => ?_)
  have hP : mx_P w n ([.inr (8, [.ref (n + 1), .ref (n + 19), .ref (n + 37), .ref (n + 55), .int 0, .null, .null, .null, .int 0, .int 0, .int 0])] ++ mx_st w (n + 1) ++ mx_st w (n + 19) ++ mx_st w (n + 37) ++ mx_st w (n + 55) ++ [.inr (3, [.null, .int 0])]) H := hP
  refine W.widen (k := 73) (n := 690) (Nat.le_of_ble_eq_true rfl) (Nat.le_of_ble_eq_true rfl) ?_
  refine lv_dup hx hb dX8_init_52 rfl ?_
  refine mx_I (es := [.inr (8, [.ref (n + 1), .ref (n + 19), .ref (n + 37), .ref (n + 55), .int 0, .null, .null, .null, .int 0, .int 0, .int 0])] ++ mx_st w (n + 1) ++ mx_st w (n + 19) ++ mx_st w (n + 37) ++ mx_st w (n + 55)) (ct_X3_init l (w := w) (n + 73)) C K hP hS hl.1 ml_X8_27 wy_X3_init wd_X3_init rfl rfl rfl ⟨Nat.le_of_ble_eq_true rfl, Nat.le_of_ble_eq_true rfl⟩ (Nat.le_of_ble_eq_true rfl) ⟨Nat.le_of_ble_eq_true rfl, Nat.le_of_ble_eq_true rfl⟩ dX8_init_53 (fun H locs hP hS => ?_)
  have hP : mx_P w n ([.inr (8, [.ref (n + 1), .ref (n + 19), .ref (n + 37), .ref (n + 55), .int 0, .null, .null, .null, .int 0, .int 0, .int 0])] ++ mx_st w (n + 1) ++ mx_st w (n + 19) ++ mx_st w (n + 37) ++ mx_st w (n + 55) ++ mx_hi w (n + 73)) H := hP
  refine W.widen (k := 146) (n := 1382) (Nat.le_of_ble_eq_true rfl) (Nat.le_of_ble_eq_true rfl) ?_
  refine mx_putF (k := 0) (ci := 8) (Cn := RX8) (T := TX8) (N0 := 11) (ty0 := tyX8) (ty := (.object "MessengerCasts$History")) (j := 5) C K hP hS hin rfl mc_in8 tyX8_ok nmX8 rfl (by decide) fl_X8_28 rfl rfl rfl (by decide +kernel) rfl rfl (Nat.le_of_ble_eq_true rfl) dX8_init_56 (fun H locs hP hS => ?_)
  have hP : mx_P w n ([.inr (8, [.ref (n + 1), .ref (n + 19), .ref (n + 37), .ref (n + 55), .int 0, .ref (n + 73), .null, .null, .int 0, .int 0, .int 0])] ++ mx_st w (n + 1) ++ mx_st w (n + 19) ++ mx_st w (n + 37) ++ mx_st w (n + 55) ++ mx_hi w (n + 73)) H := hP
  refine lv_aload_n hx hb dX8_init_59 rfl (lv_at hl 0 rfl) ?_
  refine mx_new (ci := 6) (Cn := RX6) (T := TX6) (N0 := 2) (ty := tyX6) (fs := [.null, .int 0]) C K hP hS mc_in6 tyX6_ok rfl cl_X8_32 wb_X6 wn_X6 (fun j hj => by rcases (show j = 0 ∨ j = 1 by omega) with rfl | rfl <;> rfl) (Nat.le_of_ble_eq_true rfl) (Nat.le_of_ble_eq_true rfl) dX8_init_60 (fun H hP hS => ?_)
  have hP : mx_P w n ([.inr (8, [.ref (n + 1), .ref (n + 19), .ref (n + 37), .ref (n + 55), .int 0, .ref (n + 73), .null, .null, .int 0, .int 0, .int 0])] ++ mx_st w (n + 1) ++ mx_st w (n + 19) ++ mx_st w (n + 37) ++ mx_st w (n + 55) ++ mx_hi w (n + 73) ++ [.inr (6, [.null, .int 0])]) H := hP
  refine W.widen (k := 147) (n := 1384) (Nat.le_of_ble_eq_true rfl) (Nat.le_of_ble_eq_true rfl) ?_
  refine lv_dup hx hb dX8_init_63 rfl ?_
  refine mx_IN (es := [.inr (8, [.ref (n + 1), .ref (n + 19), .ref (n + 37), .ref (n + 55), .int 0, .ref (n + 73), .null, .null, .int 0, .int 0, .int 0])] ++ mx_st w (n + 1) ++ mx_st w (n + 19) ++ mx_st w (n + 37) ++ mx_st w (n + 55) ++ mx_hi w (n + 73)) (ct_X6_init l (w := w) (n + 147)) C K hP hS hl.1 K.2.1.2.2.2.1 wy_X6_init wd_X6_init rfl rfl rfl ⟨Nat.le_of_ble_eq_true rfl, Nat.le_of_ble_eq_true rfl⟩ (Nat.le_of_ble_eq_true rfl) ⟨Nat.le_of_ble_eq_true rfl, Nat.le_of_ble_eq_true rfl⟩ dX8_init_64 (fun H locs hP hS => ?_)
  have hP : mx_P w n ([.inr (8, [.ref (n + 1), .ref (n + 19), .ref (n + 37), .ref (n + 55), .int 0, .ref (n + 73), .null, .null, .int 0, .int 0, .int 0])] ++ mx_st w (n + 1) ++ mx_st w (n + 19) ++ mx_st w (n + 37) ++ mx_st w (n + 55) ++ mx_hi w (n + 73) ++ [.inr (6, [.ref (n + 148), .int 0]), .inl (w.2.1 0, 60, .inl (fun _ => 0))]) H := hP
  refine W.widen (k := 148) (n := 1444) (Nat.le_of_ble_eq_true rfl) (Nat.le_of_ble_eq_true rfl) ?_
  refine mx_putF (k := 0) (ci := 8) (Cn := RX8) (T := TX8) (N0 := 11) (ty0 := tyX8) (ty := (.object "MessengerCasts$Text")) (j := 6) C K hP hS hin rfl mc_in8 tyX8_ok nmX8 rfl (by decide) fl_X8_35 rfl rfl rfl (by decide +kernel) rfl rfl (Nat.le_of_ble_eq_true rfl) dX8_init_67 (fun H locs hP hS => ?_)
  have hP : mx_P w n ([.inr (8, [.ref (n + 1), .ref (n + 19), .ref (n + 37), .ref (n + 55), .int 0, .ref (n + 73), .ref (n + 147), .null, .int 0, .int 0, .int 0])] ++ mx_st w (n + 1) ++ mx_st w (n + 19) ++ mx_st w (n + 37) ++ mx_st w (n + 55) ++ mx_hi w (n + 73) ++ [.inr (6, [.ref (n + 148), .int 0]), .inl (w.2.1 0, 60, .inl (fun _ => 0))]) H := hP
  refine lv_aload_n hx hb dX8_init_70 rfl (lv_at hl 0 rfl) ?_
  refine mx_new (ci := 2) (Cn := RX2) (T := TX2) (N0 := 4) (ty := tyX2) (fs := [.null, .null, .int 0, .int 0]) C K hP hS mc_in2 tyX2_ok rfl cl_X8_39 wb_X2 wn_X2 (fun j hj => by rcases (show j = 0 ∨ j = 1 ∨ j = 2 ∨ j = 3 by omega) with rfl | rfl | rfl | rfl <;> rfl) (Nat.le_of_ble_eq_true rfl) (Nat.le_of_ble_eq_true rfl) dX8_init_71 (fun H hP hS => ?_)
  have hP : mx_P w n ([.inr (8, [.ref (n + 1), .ref (n + 19), .ref (n + 37), .ref (n + 55), .int 0, .ref (n + 73), .ref (n + 147), .null, .int 0, .int 0, .int 0])] ++ mx_st w (n + 1) ++ mx_st w (n + 19) ++ mx_st w (n + 37) ++ mx_st w (n + 55) ++ mx_hi w (n + 73) ++ [.inr (6, [.ref (n + 148), .int 0]), .inl (w.2.1 0, 60, .inl (fun _ => 0))] ++ [.inr (2, [.null, .null, .int 0, .int 0])]) H := hP
  refine W.widen (k := 149) (n := 1448) (Nat.le_of_ble_eq_true rfl) (Nat.le_of_ble_eq_true rfl) ?_
  refine lv_dup hx hb dX8_init_74 rfl ?_
  refine mx_IN (es := [.inr (8, [.ref (n + 1), .ref (n + 19), .ref (n + 37), .ref (n + 55), .int 0, .ref (n + 73), .ref (n + 147), .null, .int 0, .int 0, .int 0])] ++ mx_st w (n + 1) ++ mx_st w (n + 19) ++ mx_st w (n + 37) ++ mx_st w (n + 55) ++ mx_hi w (n + 73) ++ [.inr (6, [.ref (n + 148), .int 0]), .inl (w.2.1 0, 60, .inl (fun _ => 0))]) (ct_X2_init l (w := w) (n + 149)) C K hP hS hl.1 K.2.1.2.2.2.2.1 wy_X2_init wd_X2_init rfl rfl rfl ⟨Nat.le_of_ble_eq_true rfl, Nat.le_of_ble_eq_true rfl⟩ (Nat.le_of_ble_eq_true rfl) ⟨Nat.le_of_ble_eq_true rfl, Nat.le_of_ble_eq_true rfl⟩ dX8_init_75 (fun H locs hP hS => ?_)
  have hP : mx_P w n ([.inr (8, [.ref (n + 1), .ref (n + 19), .ref (n + 37), .ref (n + 55), .int 0, .ref (n + 73), .ref (n + 147), .null, .int 0, .int 0, .int 0])] ++ mx_st w (n + 1) ++ mx_st w (n + 19) ++ mx_st w (n + 37) ++ mx_st w (n + 55) ++ mx_hi w (n + 73) ++ [.inr (6, [.ref (n + 148), .int 0]), .inl (w.2.1 0, 60, .inl (fun _ => 0))] ++ [.inr (2, [.ref (n + 150), .ref (n + 151), .int 0, .int 0]), .inl (w.2.1 0, 60, .inl (fun _ => 0)), .inl (w.2.1 1, 60, .inl (fun _ => 0))]) H := hP
  refine W.widen (k := 151) (n := 1568) (Nat.le_of_ble_eq_true rfl) (Nat.le_of_ble_eq_true rfl) ?_
  refine mx_putF (k := 0) (ci := 8) (Cn := RX8) (T := TX8) (N0 := 11) (ty0 := tyX8) (ty := (.object "MessengerCasts$Cast")) (j := 7) C K hP hS hin rfl mc_in8 tyX8_ok nmX8 rfl (by decide) fl_X8_42 rfl rfl rfl (by decide +kernel) rfl rfl (Nat.le_of_ble_eq_true rfl) dX8_init_78 (fun H locs hP hS => ?_)
  have hP : mx_P w n ([.inr (8, [.ref (n + 1), .ref (n + 19), .ref (n + 37), .ref (n + 55), .int 0, .ref (n + 73), .ref (n + 147), .ref (n + 149), .int 0, .int 0, .int 0])] ++ mx_st w (n + 1) ++ mx_st w (n + 19) ++ mx_st w (n + 37) ++ mx_st w (n + 55) ++ mx_hi w (n + 73) ++ [.inr (6, [.ref (n + 148), .int 0]), .inl (w.2.1 0, 60, .inl (fun _ => 0))] ++ [.inr (2, [.ref (n + 150), .ref (n + 151), .int 0, .int 0]), .inl (w.2.1 0, 60, .inl (fun _ => 0)), .inl (w.2.1 1, 60, .inl (fun _ => 0))]) H := hP
  exact mx_ret (es1 := mx_ma w n) hx hb hr hlk K hP hS dX8_init_81

/-! THE WORLD. Every object and array has a number (0 to N - 1) and a kind; ad: its address. I i k: what the int field (or the element) k of number i holds; R i k: what the element k of a row of references holds, as a number. Fields that are final hold fixed numbers. Nothing is made behind the constructors, so all contracts speak of one world. -/
abbrev mc_w : Type := va_G × (Nat → ClassId) × (Nat → Nat) × Nat
def mc_gW (ad : Nat → Nat) (E : Nat → va_E) (N : Nat) : va_W := (List.range N).map (fun i => (ad i, E i))
theorem mc_gW_get {ad : Nat → Nat} {E : Nat → va_E} {N i : Nat} (h : i < N) : (mc_gW ad E N)[i]? = some (ad i, E i) := by
  simp [mc_gW, h]
theorem mc_gW_set {ad : Nat → Nat} {E : Nat → va_E} {N i : Nat} {e : va_E} (h : i < N) : (mc_gW ad E N).set i (ad i, e) = mc_gW ad (va_up E i e) N := by
  apply List.ext_getElem?
  intro j
  rw [List.getElem?_set]
  by_cases hj : i = j
  · subst hj
    rw [if_pos rfl, mc_gW_get h, va_up_self]
    simp [mc_gW, h]
  · rw [if_neg hj]
    by_cases hN : j < N
    · rw [mc_gW_get hN, mc_gW_get hN, va_up_ne _ _ (fun q => hj q.symm)]
    · simp [mc_gW, hN]
def mc_A (N : Nat) (w : mc_w) : Nat → Prop := fun q => ∃ i, i < N ∧ q = w.2.2.1 i
theorem mc_gD {N : Nat} {w : mc_w} {E : Nat → va_E} (h : ∀ i j, i < N → j < N → w.2.2.1 i = w.2.2.1 j → i = j) : va_D (mc_A N w) (mc_gW w.2.2.1 E N) := by
  have key : ∀ (i : Nat) (p : Nat × va_E), (mc_gW w.2.2.1 E N)[i]? = some p → i < N ∧ p.1 = w.2.2.1 i := by
    intro i p hp
    by_cases hi : i < N
    · rw [mc_gW_get hi] at hp
      cases hp
      exact ⟨hi, rfl⟩
    · simp [mc_gW, hi] at hp
  refine ⟨fun i j p q hp hq e => ?_, fun i p hp => ?_⟩
  · obtain ⟨h1, h2⟩ := key i p hp
    obtain ⟨h3, h4⟩ := key j q hq
    exact h i j h1 h3 (by rw [← h2, ← h4]; exact e)
  · obtain ⟨h1, h2⟩ := key i p hp
    exact ⟨i, h1, h2⟩
/-- one cell: its kind, its number, its ints, its references -/
def mc_Ei (w : mc_w) (k i : Nat) (f : Nat → Int32) (g : Nat → Option Nat) : va_E := match k with
  | 0 => .inr (0, [.int (f 0), .int (f 1), .int (f 2), .int (f 3), .int (f 4), .int (f 5), .int (f 6), .int (f 7), .int (f 8), .int (f 9), .int (f 10)])
  | 1 => .inr (1, [.int (f 0), .int (f 1), .int (f 2)])
  | 2 => .inr (2, [.ref (w.2.2.1 150), .ref (w.2.2.1 151), .int (f 2), .int (f 3)])
  | 3 => .inr (3, [.ref (w.2.2.1 146), .int (f 1)])
  | 4 => .inr (4, [.ref (w.2.2.1 (i + 1)), .int (f 1), .int (f 2), .int (f 3), .int (f 4), .int (f 5), .int (f 6)])
  | 5 => .inr (5, [.ref (w.2.2.1 (i + 1)), .ref (w.2.2.1 (i + 2)), .ref (w.2.2.1 (i + 5)), .ref (w.2.2.1 (i + 7)), .int (f 4), .int (f 5), .int (f 6), .int (f 7)])
  | 6 => .inr (6, [.ref (w.2.2.1 148), .int (f 1)])
  | 7 => .inr (7, [.ref (w.2.2.1 (i + 1)), .ref (w.2.2.1 (i + 2))])
  | 8 => .inr (8, [.ref (w.2.2.1 0), .ref (w.2.2.1 18), .ref (w.2.2.1 36), .ref (w.2.2.1 54), .int (f 4), .ref (w.2.2.1 145), .ref (w.2.2.1 147), .ref (w.2.2.1 149), .int (f 8), .int (f 9), .int (f 10)])
  | 9 => .inr (9, [.ref (w.2.2.1 1), .int (f 1), .int (f 2), .ref (w.2.2.1 2), .int (f 4), .int (f 5), .int (f 6), .int (f 7), .int (f 8)])
  | 10 => .inl (w.2.1 0, 60, .inl f)
  | 11 => .inl (w.2.1 1, 10, .inl f)
  | 12 => .inl (w.2.1 2, 10, .inr (.inr (.inr (.inr (fun k => (g k).map w.2.2.1)))))
  | 13 => .inl (w.2.1 3, 4, .inr (.inr (.inr (.inr (fun k => (g k).map w.2.2.1)))))
  | 14 => .inl (w.2.1 1, 12, .inl f)
  | 15 => .inl (w.2.1 1, 60, .inl f)
  | _ => .inl (w.2.1 1, 1416, .inl f)
abbrev mc_tys (w : mc_w) : List (ClassId × FieldType) := [(w.2.1 0, .char), (w.2.1 1, .int), (w.2.1 2, .object RX0), (w.2.1 3, .object RX5)]
/-- the kinds of the class's numbers: eight blocks of 18 (a state: itself, cable, water, warmths, salts, messengers, marks, bottles' row, ten bottles), then the rest -/
def mc_k (i : Nat) : Nat := if i < 144 then (match i % 18 with
    | 0 => 5
    | 1 => 1
    | 2 => 7
    | 3 => 11
    | 4 => 11
    | 5 => 4
    | 6 => 14
    | 7 => 12
    | _ => 0) else (match i with
    | 144 => 8
    | 145 => 3
    | 146 => 13
    | 147 => 6
    | 148 => 10
    | 149 => 2
    | 150 => 10
    | 151 => 15
    | _ => 17)
def mr_k (i : Nat) : Nat := match i with
  | 0 => 9
  | 1 => 16
  | 2 => 15
  | _ => 17
def mc_d (k : Nat) : Int32 := match k with
  | 0 => 1000
  | 1 => 985
  | 2 => 940
  | 3 => 866
  | 4 => 766
  | 5 => 643
  | _ => 500
def mc_u {α : Type} (I : Nat → Nat → α) (a k : Nat) (v : α) : Nat → Nat → α := va_up I a (va_up (I a) k v)
def mc_ty (κ : Nat → Nat) (R : Nat → Nat → Option Nat) : Prop := ∀ i k b, R i k = some b → (κ i = 12 → κ b = 0) ∧ (κ i = 13 → κ b = 5)
def mc_P (κ : Nat → Nat) (N : Nat) (w : mc_w) (I : Nat → Nat → Int32) (R : Nat → Nat → Option Nat) (H : Heap) : Prop := va_P w.1 vwCl (mc_gW w.2.2.1 (fun i => mc_Ei w (κ i) i (I i) (R i)) N) H ∧ mc_ty κ R
/-- links of nest mates: no word of the tables that every call keeps, so the world carries them -/
def mc_N (s : State) : Prop := va_Nw (.methodLinkNest RX5 11 yX1_init "MessengerCasts") s ∧ va_Nw (.methodLinkNest RX5 27 yX4_init "MessengerCasts") s ∧ va_Nw (.methodLinkNest RX5 45 yX0_init "MessengerCasts") s ∧ va_Nw (.methodLinkNest RX8 34 yX6_init "MessengerCasts") s ∧ va_Nw (.methodLinkNest RX8 41 yX2_init "MessengerCasts") s ∧ va_Nw (.methodLinkNest RX5 139 yX8_depthAt "MessengerCasts") s ∧ va_Nw (.methodLinkNest RX5 149 yX8_layerAt "MessengerCasts") s ∧ va_Nw (.methodLinkNest RX1 43 yX8_depthAt "MessengerCasts") s
theorem mc_N.warm {s t : State} (h : mc_N s) (hW : s.WarmedH t.vm) : mc_N t := ⟨va_Nw.warmM hW h.1, va_Nw.warmM hW h.2.1, va_Nw.warmM hW h.2.2.1, va_Nw.warmM hW h.2.2.2.1, va_Nw.warmM hW h.2.2.2.2.1, va_Nw.warmM hW h.2.2.2.2.2.1, va_Nw.warmM hW h.2.2.2.2.2.2.1, va_Nw.warmM hW h.2.2.2.2.2.2.2⟩
theorem mc_N.same {s t : State} (h : mc_N s) (e : s.vm = t.vm) : mc_N t := ⟨va_Nw.same rfl e h.1, va_Nw.same rfl e h.2.1, va_Nw.same rfl e h.2.2.1, va_Nw.same rfl e h.2.2.2.1, va_Nw.same rfl e h.2.2.2.2.1, va_Nw.same rfl e h.2.2.2.2.2.1, va_Nw.same rfl e h.2.2.2.2.2.2.1, va_Nw.same rfl e h.2.2.2.2.2.2.2⟩
def mc_K (κ : Nat → Nat) (N : Nat) (w : mc_w) (s : State) : Prop := va_K w.1 vwCl (mc_tys w) s ∧ (∀ i j, i < N → j < N → w.2.2.1 i = w.2.2.1 j → i = j) ∧ (∀ i, κ i ≠ 17 → i < N) ∧ va_Z RX8 "DEPTH_PER_MILLE" "[I" (.ref w.2.2.2) (mc_A N w) s s.heap ∧ va_T .int w.2.2.2 7 (fun j => .int (mc_d j)) (mc_A N w) s s.heap ∧ mc_N s
def mc_B (κ : Nat → Nat) (N : Nat) (w : mc_w) (I : Nat → Nat → Int32) (R : Nat → Nat → Option Nat) (U : State) : Prop := mc_P κ N w I R U.heap ∧ mc_K κ N w U
def mc_Q (rv : Option Value) (B : State → Prop) (A : Nat → Prop) : Array Value → State → Outcome → State → Prop := fun _ st oc t => oc = .returned rv ∧ B t ∧ va_F A st t
theorem mc_K.mv {κ : Nat → Nat} {N : Nat} {w : mc_w} {s t : State} {locs : List Loc} (h : mc_K κ N w s) (hW : s.WarmedH t.vm) (hS : va_S (mc_A N w) s.heap t.heap locs) : mc_K κ N w t :=
  ⟨h.1.moved hW.alike, h.2.1, h.2.2.1, (h.2.2.2.1.moved hW.alike).kept (fun a h1 h2 => hS.2.1 a h1 h2), (h.2.2.2.2.1.moved hW.alike).kept (fun a h1 h2 => hS.2.1 a h1 h2), h.2.2.2.2.2.warm hW⟩
theorem mc_B.blind {κ : Nat → Nat} {N : Nat} {w : mc_w} {I : Nat → Nat → Int32} {R : Nat → Nat → Option Nat} {U : State} {g : JFrame} {mk : MethodId} {a : Array Value} (h : mc_B κ N w I R U) : mc_B κ N w I R (U.calling g mk a) :=
  ⟨h.1, va_K.moved (u := U) (U := U.calling g mk a) (Vm.Alike.refl U.vm) h.2.1, h.2.2.1, h.2.2.2.1, (va_Z.moved (u := U) (U := U.calling g mk a) (Vm.Alike.refl U.vm) h.2.2.2.2.1), (va_T.moved (u := U) (U := U.calling g mk a) (Vm.Alike.refl U.vm) h.2.2.2.2.2.1), h.2.2.2.2.2.2.same (t := U.calling g mk a) rfl⟩
theorem mc_at {κ : Nat → Nat} {N : Nat} {w : mc_w} {I : Nat → Nat → Int32} {R : Nat → Nat → Option Nat} {s : State} (K : mc_K κ N w s) {i k : Nat} (hk : κ i = k) (h : k ≠ 17) : (mc_gW w.2.2.1 (fun i => mc_Ei w (κ i) i (I i) (R i)) N)[i]? = some (w.2.2.1 i, mc_Ei w k i (I i) (R i)) := by
  subst hk
  exact mc_gW_get (K.2.2.1 i h)
theorem mc_E1 {κ : Nat → Nat} {w : mc_w} {I : Nat → Nat → Int32} {R : Nat → Nat → Option Nat} {i k : Nat} {x : Int32} {e : va_E} (he : mc_Ei w (κ i) i (va_up (I i) k x) (R i) = e) : va_up (fun j => mc_Ei w (κ j) j (I j) (R j)) i e = fun j => mc_Ei w (κ j) j (mc_u I i k x j) (R j) := by
  funext j
  by_cases hj : j = i
  · subst hj
    rw [va_up_self, ← he, mc_u, va_up_self]
  · rw [va_up_ne _ _ hj, mc_u, va_up_ne _ _ hj]
theorem mc_E2 {κ : Nat → Nat} {w : mc_w} {I : Nat → Nat → Int32} {R : Nat → Nat → Option Nat} {i k : Nat} {x : Option Nat} {e : va_E} (he : mc_Ei w (κ i) i (I i) (va_up (R i) k x) = e) : va_up (fun j => mc_Ei w (κ j) j (I j) (R j)) i e = fun j => mc_Ei w (κ j) j (I j) (mc_u R i k x j) := by
  funext j
  by_cases hj : j = i
  · subst hj
    rw [va_up_self, ← he, mc_u, va_up_self]
  · rw [va_up_ne _ _ hj, mc_u, va_up_ne _ _ hj]
theorem mc_P.up1 {κ : Nat → Nat} {N : Nat} {w : mc_w} {I : Nat → Nat → Int32} {R : Nat → Nat → Option Nat} {H H1 : Heap} {s : State} (K : mc_K κ N w s) (h : mc_P κ N w I R H) {i k : Nat} {x : Int32} {e : va_E} (hi : κ i ≠ 17) (h1 : va_P w.1 vwCl ((mc_gW w.2.2.1 (fun i => mc_Ei w (κ i) i (I i) (R i)) N).set i (w.2.2.1 i, e)) H1) (he : mc_Ei w (κ i) i (va_up (I i) k x) (R i) = e) : mc_P κ N w (mc_u I i k x) R H1 := by
  rw [mc_gW_set (K.2.2.1 i hi), mc_E1 he] at h1
  exact ⟨h1, h.2⟩
theorem mc_P.up2 {κ : Nat → Nat} {N : Nat} {w : mc_w} {I : Nat → Nat → Int32} {R : Nat → Nat → Option Nat} {H H1 : Heap} {s : State} (K : mc_K κ N w s) (h : mc_P κ N w I R H) {i k : Nat} {x : Option Nat} {e : va_E} (hi : κ i ≠ 17) (hx : ∀ b, x = some b → (κ i = 12 → κ b = 0) ∧ (κ i = 13 → κ b = 5)) (h1 : va_P w.1 vwCl ((mc_gW w.2.2.1 (fun i => mc_Ei w (κ i) i (I i) (R i)) N).set i (w.2.2.1 i, e)) H1) (he : mc_Ei w (κ i) i (I i) (va_up (R i) k x) = e) : mc_P κ N w I (mc_u R i k x) H1 := by
  rw [mc_gW_set (K.2.2.1 i hi), mc_E2 he] at h1
  refine ⟨h1, fun j q b hb => ?_⟩
  by_cases hj : j = i
  · subst hj
    rw [mc_u, va_up_self] at hb
    by_cases hq : q = k
    · subst hq
      rw [va_up_self] at hb
      exact hx b hb
    · rw [va_up_ne _ _ hq] at hb
      exact h.2 j q b hb
  · rw [mc_u, va_up_ne _ _ hj] at hb
    exact h.2 j q b hb
/-! small words of the mirrors, and how a row takes one apart -/
def mc_bn {α β : Type} (x : α) (f : α → β) : β := f x
def mc_ob {α β : Type} (x : Option α) (f : α → Option β) : Option β := match x with
  | none => none
  | some r => f r
def mc_om {α β : Type} (x : Option α) (a : β) (f : α → β) : β := match x with
  | none => a
  | some r => f r
theorem mc_bn_e {α β : Type} {x : α} {f : α → β} {r : β} (h : mc_bn x f = r) : ∃ z, z = x ∧ f z = r := ⟨x, rfl, h⟩
theorem mc_ob_e {α β : Type} {x : Option α} {f : α → Option β} {r : β} (h : mc_ob x f = some r) : ∃ z, x = some z ∧ f z = some r := by
  cases x with
  | none => cases h
  | some z => exact ⟨z, rfl, h⟩
theorem mc_om_n {α β : Type} {a : β} {f : α → β} {r : β} (h : mc_om (none : Option α) a f = r) : a = r := h
theorem mc_om_s {α β : Type} {z : α} {a : β} {f : α → β} {r : β} (h : mc_om (some z) a f = r) : f z = r := h
theorem mc_it {α : Type} {c : Prop} {_ : Decidable c} {a b r : α} (h : (if c then a else b) = r) (hc : c) : a = r := by rw [if_pos hc] at h; exact h
theorem mc_ie {α : Type} {c : Prop} {_ : Decidable c} {a b r : α} (h : (if c then a else b) = r) (hc : ¬ c) : b = r := by rw [if_neg hc] at h; exact h
theorem mc_gd {α : Type} {c : Prop} {_ : Decidable c} {b : Option α} {r : α} (h : (if c then none else b) = some r) : ¬ c ∧ b = some r := by
  by_cases hc : c
  · rw [if_pos hc] at h
    cases h
  · rw [if_neg hc] at h
    exact ⟨hc, h⟩
theorem mc_nz {x : Int32} (h : ¬ (x ≠ 0 ∧ x ≠ 1)) : narrow .boolean (.int x) = .int x ∧ fits .boolean (.int x) = true := by
  by_cases h0 : x = 0
  · subst h0
    exact ⟨by decide, by decide⟩
  · by_cases h1 : x = 1
    · subst h1
      exact ⟨by decide, by decide⟩
    · exact absurd ⟨h0, h1⟩ h
theorem mc_nc {x : Int32} (h : ¬ vp_nar .char x ≠ x) : narrow .char (.int x) = .int x := by
  have h1 : vp_nar .char x = x := Decidable.not_not.mp h
  rw [← h1]
  exact pk_nc x
def mc_bn2 {α β γ : Type} (x : α × β) (f : α → β → γ) : γ := f x.1 x.2
def mc_bn3 {α β γ δ : Type} (x : α × β × γ) (f : α → β → γ → δ) : δ := f x.1 x.2.1 x.2.2
def mc_ob2 {α β γ : Type} (x : Option (α × β)) (f : α → β → Option γ) : Option γ := match x with
  | none => none
  | some r => f r.1 r.2
def mc_ob3 {α β γ δ : Type} (x : Option (α × β × γ)) (f : α → β → γ → Option δ) : Option δ := match x with
  | none => none
  | some r => f r.1 r.2.1 r.2.2
theorem mc_bn2_e {α β γ : Type} {x : α × β} {f : α → β → γ} {r : γ} (h : mc_bn2 x f = r) : ∃ a b, x = (a, b) ∧ f a b = r := ⟨x.1, x.2, rfl, h⟩
theorem mc_bn3_e {α β γ δ : Type} {x : α × β × γ} {f : α → β → γ → δ} {r : δ} (h : mc_bn3 x f = r) : ∃ a b c, x = (a, b, c) ∧ f a b c = r := ⟨x.1, x.2.1, x.2.2, rfl, h⟩
theorem mc_ob2_e {α β γ : Type} {x : Option (α × β)} {f : α → β → Option γ} {r : γ} (h : mc_ob2 x f = some r) : ∃ a b, x = some (a, b) ∧ f a b = some r := by
  cases x with
  | none => cases h
  | some z => exact ⟨z.1, z.2, rfl, h⟩
theorem mc_ob3_e {α β γ δ : Type} {x : Option (α × β × γ)} {f : α → β → γ → Option δ} {r : δ} (h : mc_ob3 x f = some r) : ∃ a b c, x = some (a, b, c) ∧ f a b c = some r := by
  cases x with
  | none => cases h
  | some z => exact ⟨z.1, z.2.1, z.2.2, rfl, h⟩
theorem mc_bz {x : Int32} (h : x = 0 ∨ x = 1) : ¬ (x ≠ 0 ∧ x ≠ 1) := fun q => h.elim q.1 q.2

/-! how a cast is read -/
theorem mz_uu {α : Type} (I : Nat → Nat → α) (a k : Nat) (u v : α) : mc_u (mc_u I a k u) a k v = mc_u I a k v := by
  funext x y
  rw [mz_u, mz_u, mz_u]
  by_cases h : x = a ∧ y = k
  · rw [if_pos h, if_pos h]
  · rw [if_neg h, if_neg h, if_neg h]
theorem mz_uid {α : Type} (I : Nat → Nat → α) {a k : Nat} {u : α} (h : I a k = u) : mc_u I a k u = I := by
  funext x y
  rw [mz_u]
  by_cases e : x = a ∧ y = k
  · rw [if_pos e, e.1, e.2, h]
  · rw [if_neg e]
def sp_dg (T : Nat → Nat) (tl s : Nat) : Option Nat := if s < tl ∧ 48 ≤ T s ∧ T s ≤ 57 then some (T s - 48) else none
def sp_more (T : Nat → Nat) (tl most : Nat) : Nat → Nat → Nat → Nat × Nat
  | 0, v, s => (v, s)
  | n + 1, v, s => if v = 0 then (v, s) else match sp_dg T tl s with
    | none => (v, s)
    | some d => if 10 * v + d ≤ most then sp_more T tl most n (10 * v + d) (s + 1) else (v, s)
def sp_num (T : Nat → Nat) (tl least most s : Nat) : Option (Nat × Nat) := match sp_dg T tl s with
  | none => none
  | some d => if d < least ∨ most < d then none else some (sp_more T tl most 60 d (s + 1))
def sp_ch (T : Nat → Nat) (tl s : Nat) : Nat := if s < tl then T s else 0
def sp_thing (T : Nat → Nat) (tl s : Nat) : Option (Nat × Nat) × Nat :=
  if sp_ch T tl s = 33 ∨ sp_ch T tl s = 98 ∨ sp_ch T tl s = 109 then (some (sp_ch T tl s, 0), s + 1)
  else if sp_ch T tl s = 43 ∨ sp_ch T tl s = 45 ∨ sp_ch T tl s = 46 then (match sp_num T tl 1 999 (s + 1) with | none => (none, s + 1) | some q => (some (sp_ch T tl s, q.1), q.2))
  else if sp_ch T tl s = 47 then (match sp_num T tl 0 6 (s + 1) with | none => (none, s + 1) | some q => (some (sp_ch T tl s, q.1), q.2))
  else (none, s)
theorem sp_dg_some {T : Nat → Nat} {tl s d : Nat} (h : sp_dg T tl s = some d) : s < tl ∧ 48 ≤ T s ∧ T s ≤ 57 ∧ d = T s - 48 := by
  unfold sp_dg at h
  by_cases c : s < tl ∧ 48 ≤ T s ∧ T s ≤ 57
  · rw [if_pos c] at h
    cases h
    exact ⟨c.1, c.2.1, c.2.2, rfl⟩
  · rw [if_neg c] at h
    cases h
theorem sp_more_ok {T : Nat → Nat} {tl most : Nat} : ∀ (n v s : Nat), s ≤ tl → v ≤ most → s ≤ (sp_more T tl most n v s).2 ∧ (sp_more T tl most n v s).2 ≤ tl ∧ (sp_more T tl most n v s).1 ≤ most := by
  intro n
  induction n with
  | zero => intro v s h1 h2; exact ⟨Nat.le_refl _, h1, h2⟩
  | succ n ih =>
    intro v s h1 h2
    unfold sp_more
    by_cases c : v = 0
    · rw [if_pos c]
      exact ⟨Nat.le_refl _, h1, h2⟩
    · rw [if_neg c]
      cases hd : sp_dg T tl s with
      | none => exact ⟨Nat.le_refl _, h1, h2⟩
      | some d =>
        dsimp only
        by_cases c2 : 10 * v + d ≤ most
        · rw [if_pos c2]
          have := ih (10 * v + d) (s + 1) (sp_dg_some hd).1 c2
          exact ⟨by omega, this.2⟩
        · rw [if_neg c2]
          exact ⟨Nat.le_refl _, h1, h2⟩
theorem sp_more_fuel {T : Nat → Nat} {tl most : Nat} : ∀ (n m v s : Nat), tl - s ≤ n → tl - s ≤ m → sp_more T tl most n v s = sp_more T tl most m v s := by
  intro n
  induction n with
  | zero =>
    intro m v s h1 h2
    cases m with
    | zero => rfl
    | succ m =>
      unfold sp_more
      have : sp_dg T tl s = none := by
        unfold sp_dg
        rw [if_neg (by omega)]
      rw [this]
      split <;> rfl
  | succ n ih =>
    intro m v s h1 h2
    cases m with
    | zero =>
      unfold sp_more
      have : sp_dg T tl s = none := by
        unfold sp_dg
        rw [if_neg (by omega)]
      rw [this]
      split <;> rfl
    | succ m =>
      unfold sp_more
      by_cases c : v = 0
      · rw [if_pos c, if_pos c]
      · rw [if_neg c, if_neg c]
        cases hd : sp_dg T tl s with
        | none => rfl
        | some d =>
          dsimp only
          have := (sp_dg_some hd).1
          rw [ih m (10 * v + d) (s + 1) (by omega) (by omega)]
theorem sp_num_ok {T : Nat → Nat} {tl least most s : Nat} {q : Nat × Nat} (h : sp_num T tl least most s = some q) : s < q.2 ∧ q.2 ≤ tl ∧ q.1 ≤ most := by
  unfold sp_num at h
  cases hd : sp_dg T tl s with
  | none =>
    rw [hd] at h
    cases h
  | some d =>
    rw [hd] at h
    dsimp only at h
    by_cases c : d < least ∨ most < d
    · rw [if_pos c] at h
      cases h
    · rw [if_neg c] at h
      cases h
      have h1 := sp_dg_some hd
      have := sp_more_ok (T := T) (tl := tl) (most := most) 60 d (s + 1) h1.1 (by omega)
      exact ⟨by omega, this.2⟩
theorem sp_thing_ok {T : Nat → Nat} {tl s s1 : Nat} {t : Nat × Nat} (h : sp_thing T tl s = (some t, s1)) : s < tl ∧ s < s1 ∧ s1 ≤ tl ∧ t.2 ≤ 999 ∧ (t.1 = 33 ∨ t.1 = 98 ∨ t.1 = 109 ∨ t.1 = 43 ∨ t.1 = 45 ∨ t.1 = 46 ∨ t.1 = 47) := by
  have hs : s < tl := by
    by_cases c : s < tl
    · exact c
    · have e : sp_ch T tl s = 0 := if_neg c
      unfold sp_thing at h
      rw [e, if_neg (by decide), if_neg (by decide), if_neg (by decide)] at h
      cases h
  unfold sp_thing at h
  by_cases c1 : sp_ch T tl s = 33 ∨ sp_ch T tl s = 98 ∨ sp_ch T tl s = 109
  · rw [if_pos c1] at h
    cases h
    refine ⟨hs, by omega, by omega, by dsimp only; omega, ?_⟩
    dsimp only
    omega
  · rw [if_neg c1] at h
    by_cases c2 : sp_ch T tl s = 43 ∨ sp_ch T tl s = 45 ∨ sp_ch T tl s = 46
    · rw [if_pos c2] at h
      cases hq : sp_num T tl 1 999 (s + 1) with
      | none =>
        rw [hq] at h
        cases h
      | some q =>
        rw [hq] at h
        cases h
        have := sp_num_ok hq
        refine ⟨hs, by omega, this.2.1, this.2.2, ?_⟩
        dsimp only
        omega
    · rw [if_neg c2] at h
      by_cases c3 : sp_ch T tl s = 47
      · rw [if_pos c3] at h
        cases hq : sp_num T tl 0 6 (s + 1) with
        | none =>
          rw [hq] at h
          cases h
        | some q =>
          rw [hq] at h
          cases h
          have := sp_num_ok hq
          refine ⟨hs, by omega, this.2.1, by omega, ?_⟩
          dsimp only
          omega
      · rw [if_neg c3] at h
        cases h
def zz_TX (I : Nat → Nat → Int32) (T : Nat → Nat) (tl : Nat) : Prop := I 147 1 = nI tl ∧ (∀ k, k < tl → I 148 k = nI (T k)) ∧ tl ≤ 60 ∧ ∀ k, k < tl → T k < 65536
def zz_TR (J : Nat → Nat → Int32) (T : Nat → Nat) (tl : Nat) : Prop := J 0 4 = nI tl ∧ (∀ k, k < tl → J 2 k = nI (T k)) ∧ tl ≤ 60 ∧ ∀ k, k < tl → T k < 65536
theorem zz_TX.keep {I I1 : Nat → Nat → Int32} {T : Nat → Nat} {tl : Nat} (h : zz_TX I T tl) (h1 : I1 147 = I 147) (h2 : I1 148 = I 148) : zz_TX I1 T tl := by
  unfold zz_TX
  rw [h1, h2]
  exact h
theorem zz_TR.keep {J J1 : Nat → Nat → Int32} {T : Nat → Nat} {tl : Nat} (h : zz_TR J T tl) (h1 : J1 0 4 = J 0 4) (h2 : J1 2 = J 2) : zz_TR J1 T tl := by
  unfold zz_TR
  rw [h1, h2]
  exact h
theorem zc_at {I : Nat → Nat → Int32} {T : Nat → Nat} {tl s : Nat} (h : zz_TX I T tl) (hs : s ≤ 99999) : mi_X6_at I (nI s) = some (nI (sp_ch T tl s)) := by
  obtain ⟨h1, h2, h3, h4⟩ := h
  unfold mi_X6_at sp_ch
  rw [h1, if_neg (show ¬ nI s < 0 from zl_nlt (b := 0) (by omega) (by omega))]
  by_cases c : s < tl
  · have e0 : (nI s < 0 ∨ 60 ≤ (nI s).toNatClampNeg) = False := by simp (disch := omega) only [zi_lit, zi_add, zi_mul, zi_le, zi_lt, zi_cl, Nat.not_lt_zero, zn_nle, zn_yle, zn_nlt, zn_ylt, if_false, if_true, or_false, false_or, mz_bn]
    rw [if_pos c, if_neg (zl_nle c (by omega)), if_neg (show ¬ (60 : Int32) ≤ nI s from zl_nle (a := 60) (by omega) (by omega))]
    simp only [e0, if_false]
    rw [zi_cl (show s < 2147483648 by omega), h2 s c, zn_nar (h4 s c), if_neg (fun q => q rfl)]
  · rw [if_neg c, if_pos (zl_le (by omega) (by omega))]
    rfl
theorem sp_ch_le {T : Nat → Nat} {tl s : Nat} (h : ∀ k, k < tl → T k < 65536) : sp_ch T tl s < 65536 := by
  unfold sp_ch
  split
  · exact h s (by assumption)
  · omega
theorem zc_digit {I : Nat → Nat → Int32} {T : Nat → Nat} {tl s : Nat} (h : zz_TX I T tl) (hs : s ≤ 99999) : mi_X6_digitAt I (nI s) = some (match sp_dg T tl s with | none => -1 | some d => nI d) := by
  have hc := sp_ch_le (s := s) h.2.2.2
  unfold mi_X6_digitAt
  rw [zc_at h hs, mz_ob]
  unfold sp_dg
  unfold sp_ch at hc ⊢
  by_cases c : s < tl
  · rw [if_pos c] at hc ⊢
    by_cases c1 : 48 ≤ T s
    · rw [if_neg (show ¬ nI (T s) < 48 from zl_nlt (b := 48) c1 (by omega))]
      by_cases c2 : T s ≤ 57
      · rw [if_neg (show ¬ (57 : Int32) < nI (T s) from zl_nlt (a := 57) c2 (by omega)), if_pos ⟨c, c1, c2⟩]
        exact congrArg some (zi_sub (b := 48) c1)
      · rw [if_pos (show (57 : Int32) < nI (T s) from zl_lt (a := 57) (by omega) (by omega)), if_neg (fun q => c2 q.2.2)]
    · rw [if_pos (show nI (T s) < 48 from zl_lt (b := 48) (by omega) (by omega)), if_neg (fun q => c1 q.2.1)]
  · rw [if_neg c, if_pos (by decide), if_neg (fun q => c q.1)]
theorem zc_addThing {I : Nat → Nat → Int32} {n c : Nat} {v : Int32} (h : I 149 2 = nI n) (hn : n < 60) (hc : c < 65536) : mi_X2_addThing I (nI c) v = some (mc_u (mc_u (mc_u I 150 n (nI c)) 151 n v) 149 2 (nI (n + 1))) := by
  unfold mi_X2_addThing
  have e0 : (nI n < 0 ∨ 60 ≤ (nI n).toNatClampNeg) = False := by simp (disch := omega) only [zi_lit, zi_add, zi_mul, zi_le, zi_lt, zi_cl, Nat.not_lt_zero, zn_nle, zn_yle, zn_nlt, zn_ylt, if_false, if_true, or_false, false_or, mz_bn]
  rw [h, if_neg (show ¬ nI n < 0 from zl_nlt (b := 0) (by omega) (by omega)), if_neg (show ¬ (60 : Int32) ≤ nI n from zl_nle (a := 60) hn (by omega))]
  simp only [mz_bn]
  rw [zi_cl (show n < 2147483648 by omega)] 
  have e1 : mc_u I 150 n (vp_nar .char (nI c)) 149 2 = nI n := by rw [mz_u, if_neg (by omega)]; exact h
  rw [e1, zi_cl (show n < 2147483648 by omega)]
  have e2 : mc_u (mc_u I 150 n (vp_nar .char (nI c))) 151 n v 149 2 = nI n := by rw [mz_u, if_neg (by omega)]; exact e1
  rw [e2, zn_nar hc, show nI n + 1 = nI (n + 1) from nI_add n 1]
  have e3 : (nI n < 0 ∨ 60 ≤ n) = False := by simp (disch := omega) only [zi_lit, zi_add, zi_mul, zi_le, zi_lt, zi_cl, Nat.not_lt_zero, zn_nle, zn_yle, zn_nlt, zn_ylt, if_false, if_true, or_false, false_or, mz_bn]
  simp only [e3, if_false]
theorem zc_rnL {T : Nat → Nat} {tl F most : Nat} {c : Int32} (hmost : most ≤ 999) : ∀ (n i v s : Nat) (I : Nat → Nat → Int32), i ≤ 60 → 60 - i < n → v ≤ most → s ≤ tl → zz_TX I T tl → I 149 3 = nI s → mi_X2_readNumber_L38 F n I c (nI most) (nI v) (nI i) = (mc_ob (mi_X2_addThing (mc_u I 149 3 (nI (sp_more T tl most (60 - i) v s).2)) c (nI (sp_more T tl most (60 - i) v s).1)) fun I7 => some (I7, 1)) := by
  intro n
  induction n with
  | zero => intro i v s I _ h; omega
  | succ n ih =>
    intro i v s I hi hin hv hst hT h3
    have htl := hT.2.2.1
    show mi_X2_readNumber_B38 _ F I _ _ _ _ = _
    unfold mi_X2_readNumber_B38
    by_cases c0 : i = 60
    · subst c0
      rw [if_pos (by decide)]
      show _ = (mc_ob (mi_X2_addThing (mc_u I 149 3 (nI s)) c (nI v)) fun I7 => some (I7, 1))
      rw [mz_uid I h3]
    · rw [if_neg (show ¬ (60 : Int32) ≤ nI i from zl_nle (a := 60) (by omega) (by omega)), show 60 - i = (60 - (i + 1)) + 1 by omega]
      unfold sp_more
      by_cases c1 : v = 0
      · rw [if_pos (show nI v ≤ 0 from zl_le (b := 0) (by omega) (by omega)), if_pos c1]
        dsimp only
        rw [mz_uid I h3]
      · rw [if_neg (show ¬ nI v ≤ 0 from zl_nle (b := 0) (by omega) (by omega)), if_neg c1, h3, zc_digit hT (by omega), mz_ob]
        cases hd : sp_dg T tl s with
        | none =>
          dsimp only
          rw [if_pos (by decide), mz_uid I h3]
        | some d =>
          have hd9 := sp_dg_some hd
          dsimp only
          rw [if_neg (show ¬ nI d < 0 from zl_nlt (b := 0) (by omega) (by omega)), show nI v * 10 = nI (v * 10) from pk_mul v 10, nI_add, show v * 10 + d = 10 * v + d by omega]
          by_cases c2 : 10 * v + d ≤ most
          · rw [if_pos (zl_le c2 (by omega)), if_pos c2]
            simp only [mz_bn]
            rw [show nI s + 1 = nI (s + 1) from nI_add s 1, show nI i + 1 = nI (i + 1) from nI_add i 1]
            have := ih (i + 1) (10 * v + d) (s + 1) (mc_u I 149 3 (nI (s + 1))) (by omega) (by omega) c2 hd9.1 (hT.keep (mz_ux _ (by omega)) (mz_ux _ (by omega))) (by rw [mz_u, if_pos ⟨rfl, rfl⟩])
            rw [this, mz_uu]
          · rw [if_neg (zl_nle (by omega) (by omega)), if_neg c2]
            dsimp only
            rw [mz_uid I h3]
theorem zc_readNumber {T : Nat → Nat} {tl F least most s n c : Nat} {I : Nat → Nat → Int32} (hF : 1100 ≤ F) (hl : least ≤ 1) (hmost : most ≤ 999) (hT : zz_TX I T tl) (h3 : I 149 3 = nI s) (h2 : I 149 2 = nI n) (hn : n < 60) (hs : s ≤ tl) (hc : c < 65536) : mi_X2_readNumber F I (nI c) (nI least) (nI most) = (match sp_num T tl least most s with | none => some (I, 0) | some q => some (mc_u (mc_u (mc_u (mc_u I 149 3 (nI q.2)) 150 n (nI c)) 151 n (nI q.1)) 149 2 (nI (n + 1)), 1)) := by
  have htl := hT.2.2.1
  unfold mi_X2_readNumber sp_num
  rw [h3, zc_digit hT (by omega), mz_ob]
  cases hd : sp_dg T tl s with
  | none =>
    dsimp only
    rcases (show least = 0 ∨ least = 1 by omega) with rfl | rfl
    · rw [if_pos (by decide)]
    · rw [if_pos (by decide)]
  | some d =>
    have hd9 := sp_dg_some hd
    dsimp only
    by_cases c1 : d < least
    · rw [if_pos (zl_lt c1 (by omega)), if_pos (Or.inl c1)]
    · rw [if_neg (zl_nlt (by omega) (by omega))]
      by_cases c2 : d ≤ most
      · rw [if_pos (zl_le c2 (by omega)), if_neg (by omega)]
        simp only [mz_bn]
        rw [show nI s + 1 = nI (s + 1) from nI_add s 1]
        have := zc_rnL (F := F) (c := nI c) hmost F 0 d (s + 1) (mc_u I 149 3 (nI (s + 1))) (by omega) (by omega) c2 hd9.1 (hT.keep (mz_ux _ (by omega)) (mz_ux _ (by omega))) (by rw [mz_u, if_pos ⟨rfl, rfl⟩])
        rw [show (0 : Int32) = nI 0 from rfl, this, mz_uu, zc_addThing (n := n) (by rw [mz_u, if_neg (by omega)]; exact h2) hn hc, mz_ob]
      · rw [if_neg (zl_nle (by omega) (by omega)), if_pos (by omega)]
theorem zc_readThing {T : Nat → Nat} {tl F s n : Nat} {I : Nat → Nat → Int32} (hF : 1100 ≤ F) (hT : zz_TX I T tl) (h3 : I 149 3 = nI s) (h2 : I 149 2 = nI n) (hns : n ≤ s) (hs : s ≤ tl) : mi_X2_readThing F I = (match sp_thing T tl s with | (none, s1) => some (mc_u I 149 3 (nI s1), 0) | (some t, s1) => some (mc_u (mc_u (mc_u (mc_u I 149 3 (nI s1)) 150 n (nI t.1)) 151 n (nI t.2)) 149 2 (nI (n + 1)), 1)) := by
  have htl := hT.2.2.1
  have hc := sp_ch_le (s := s) hT.2.2.2
  have hlt : sp_ch T tl s ≠ 0 → s < tl := fun q => by
    by_cases c : s < tl
    · exact c
    · exact absurd (if_neg c) q
  have hT1 : ∀ x, zz_TX (mc_u I 149 3 x) T tl := fun x => hT.keep (mz_ux _ (by omega)) (mz_ux _ (by omega))
  have h31 : mc_u I 149 3 (nI (s + 1)) 149 3 = nI (s + 1) := by rw [mz_u, if_pos ⟨rfl, rfl⟩]
  have h21 : mc_u I 149 3 (nI (s + 1)) 149 2 = nI n := by rw [mz_u, if_neg (by omega)]; exact h2
  have ne : ∀ a : Nat, a ≤ 200 → sp_ch T tl s ≠ a → ¬ nI (sp_ch T tl s) = nI a := fun a ha q e => q ((nI_eq (by omega) (by omega)).mp e)
  unfold mi_X2_readThing
  rw [h3, zc_at hT (by omega), mz_ob, show nI s + 1 = nI (s + 1) from nI_add s 1]
  simp only [mz_bn]
  generalize hch : sp_ch T tl s = ch at hc hlt ne ⊢
  have num : ∀ least most : Nat, least ≤ 1 → most ≤ 999 → s < tl → (mc_ob2 (mi_X2_readNumber F (mc_u I 149 3 (nI (s + 1))) (nI ch) (nI least) (nI most)) fun I9 r10 => some (I9, r10)) = (match (match sp_num T tl least most (s + 1) with | none => (none, s + 1) | some q => (some (ch, q.1), q.2) : Option (Nat × Nat) × Nat) with | (none, s1) => some (mc_u I 149 3 (nI s1), 0) | (some t, s1) => some (mc_u (mc_u (mc_u (mc_u I 149 3 (nI s1)) 150 n (nI t.1)) 151 n (nI t.2)) 149 2 (nI (n + 1)), 1)) := by
    intro least most l1 l2 hst
    rw [zc_readNumber hF l1 l2 (hT1 _) h31 h21 (by omega) (by omega) hc]
    cases sp_num T tl least most (s + 1) with
    | none => rfl
    | some q =>
      dsimp only
      rw [mz_ob2, mz_uu]
  have one : s < tl → (mc_ob (mi_X2_addThing (mc_u I 149 3 (nI (s + 1))) (nI ch) 0) fun I5 => some (I5, (1 : Int32))) = some (mc_u (mc_u (mc_u (mc_u I 149 3 (nI (s + 1))) 150 n (nI ch)) 151 n (nI 0)) 149 2 (nI (n + 1)), 1) := by
    intro hst
    rw [zc_addThing h21 (by omega) hc, mz_ob]
    rfl
  unfold sp_thing
  rw [hch]
  by_cases k33 : ch = 33
  · subst k33
    rw [if_pos (show nI 33 = 33 from rfl), if_pos (Or.inl rfl)]
    exact one (hlt (by omega))
  · rw [if_neg (show ¬ nI ch = 33 from ne 33 (by omega) k33)]
    by_cases k43 : ch = 43
    · subst k43
      rw [if_pos (show nI 43 = 43 from rfl), if_neg (by omega), if_pos (Or.inl rfl)]
      exact num 1 999 (by omega) (by omega) (hlt (by omega))
    · rw [if_neg (show ¬ nI ch = 43 from ne 43 (by omega) k43)]
      by_cases k45 : ch = 45
      · subst k45
        rw [if_pos (show nI 45 = 45 from rfl), if_neg (by omega), if_pos (Or.inr (Or.inl rfl))]
        exact num 1 999 (by omega) (by omega) (hlt (by omega))
      · rw [if_neg (show ¬ nI ch = 45 from ne 45 (by omega) k45)]
        by_cases k46 : ch = 46
        · subst k46
          rw [if_pos (show nI 46 = 46 from rfl), if_neg (by omega), if_pos (Or.inr (Or.inr rfl))]
          exact num 1 999 (by omega) (by omega) (hlt (by omega))
        · rw [if_neg (show ¬ nI ch = 46 from ne 46 (by omega) k46)]
          by_cases k47 : ch = 47
          · subst k47
            rw [if_pos (show nI 47 = 47 from rfl), if_neg (by omega), if_neg (by omega), if_pos rfl]
            exact num 0 6 (by omega) (by omega) (hlt (by omega))
          · rw [if_neg (show ¬ nI ch = 47 from ne 47 (by omega) k47)]
            by_cases k98 : ch = 98
            · subst k98
              rw [if_pos (show nI 98 = 98 from rfl), if_pos (Or.inr (Or.inl rfl))]
              exact one (hlt (by omega))
            · rw [if_neg (show ¬ nI ch = 98 from ne 98 (by omega) k98)]
              by_cases k109 : ch = 109
              · subst k109
                rw [if_pos (show nI 109 = 109 from rfl), if_pos (Or.inr (Or.inr rfl))]
                exact one (hlt (by omega))
              · rw [if_neg (show ¬ nI ch = 109 from ne 109 (by omega) k109), if_neg (by omega), if_neg (by omega), if_neg k47]
                dsimp only
                rw [mz_uid I h3]

/-! clamp in the reference; take off -/
theorem zr_scan {J : Nat → Nat → Int32} {F p sl lo nb nm : Nat} {h : Int32} {mb ms : Nat → Nat} {sc : Nat → Int32} {bt : Nat → Nat → Int32} (hC : zz_RS J 0 (p, sl, lo, nb, nm, mb, ms, sc, bt)) (hn : nb < 10) (hp : p ≤ 999) (hmb : ∀ k, k < nb → mb k ≤ 999) (hs : ∀ k j, k < j → j < nb → mb k + 5 ≤ mb j) : ∀ (n d i r : Nat), i + d = nb → d < n → r ≤ i → (∀ q, r ≤ q → q < i → p ≤ mb q) → mi_X9_clamps_L19 F n J h (nI r) (nI i) = (match sp_nr p mb d i r with | none => some (J, -1004) | some r1 => mi_X9_clamps_L106 F F J h (nI r1) (nI (33 + 12 * nb) - 1)) := by
  intro n
  induction n with
  | zero => intro d i r _ h; omega
  | succ n ih =>
    intro d i r hid hdn hri hrr
    show mi_X9_clamps_B19 _ F J _ _ _ = _
    obtain ⟨⟨-, h1, -, -, h4, -⟩, -, -, hb⟩ := hC
    rw [Nat.zero_add] at h1 h4
    unfold mi_X9_clamps_B19 mi_X9_bottleAt
    cases d with
    | zero =>
      simp (disch := omega) only [zi_lit, zi_add, zi_mul, zi_le, zi_lt, zi_cl, Nat.not_lt_zero, zn_nle, zn_yle, zn_nlt, zn_ylt, if_false, if_true, or_false, false_or, mz_bn, h4]
      rw [Nat.zero_add]
      rfl
    | succ d =>
      have hi : i < nb := by omega
      have hg := hmb i hi
      have g0 : J 1 (33 + 12 * i) = nI (mb i) := by have := (hb i hi).1; rw [Nat.zero_add] at this; exact this
      simp (disch := omega) only [zi_lit, zi_add, zi_mul, zi_le, zi_lt, zi_cl, Nat.not_lt_zero, zn_nle, zn_yle, zn_nlt, zn_ylt, if_false, if_true, or_false, false_or, mz_bn, h4]
      rw [Nat.zero_add]
      simp (disch := omega) only [zi_lit, zi_add, zi_mul, zi_le, zi_lt, zi_cl, Nat.not_lt_zero, zn_nle, zn_yle, zn_nlt, zn_ylt, if_false, if_true, or_false, false_or, mz_bn, g0, h1]
      unfold sp_nr
      by_cases c : mb i + 5 ≤ p ∨ p + 5 ≤ mb i
      · rw [if_pos (show nI 5 ≤ mi_X9_size (nI (mb i) - nI p) from (zn_near hg hp).mpr c), if_pos c]
        by_cases c2 : p ≤ mb i
        · rw [if_pos c2, if_pos c2]
          rw [show nI r + mi_X9_flag (nI 0) = nI r from (show nI r + nI 0 = nI r from nI_add r 0)]
          refine ih d (i + 1) r (by omega) (by omega) (by omega) (fun q q1 q2 => ?_)
          by_cases hq : q = i
          · subst hq
            exact c2
          · exact hrr q q1 (by omega)
        · rw [if_neg c2, if_neg c2]
          have hr : r = i := by
            by_cases e : r = i
            · exact e
            · have a1 := hrr r (Nat.le_refl _) (by omega)
              have a2 := hs r i (by omega) hi
              omega
          subst hr
          rw [show nI r + mi_X9_flag (nI 1) = nI (r + 1) from (show nI r + nI 1 = nI (r + 1) from nI_add r 1)]
          exact ih d (r + 1) (r + 1) (by omega) (by omega) (by omega) (fun q q1 q2 => by omega)
      · rw [if_neg (show ¬ nI 5 ≤ mi_X9_size (nI (mb i) - nI p) from fun q => c ((zn_near hg hp).mp q)), if_neg c]
theorem zr_shiftL {J : Nat → Nat → Int32} {F r e : Nat} {h : Int32} (hr : 33 + 12 * r ≤ e) (he : e ≤ 141) : ∀ (n x : Nat) (J2 : Nat → Nat → Int32), 33 + 12 * r ≤ x → x ≤ e → x < n → (∀ y, y ≠ 1 → J2 y = J y) → (∀ i, i < x + 12 ∨ e + 12 ≤ i → J2 1 i = J 1 i) → (∀ i, x + 12 ≤ i → i < e + 12 → J2 1 i = J 1 (i - 12)) → ∃ J1, mi_X9_clamps_L106 F n J2 h (nI r) (nI x - 1) = mi_X9_clamps_L138 F F J1 h (nI r) (nI 0) ∧ (∀ y, y ≠ 1 → J1 y = J y) ∧ (∀ i, i < 33 + 12 * r ∨ e + 12 ≤ i → J1 1 i = J 1 i) ∧ (∀ i, 33 + 12 * r + 12 ≤ i → i < e + 12 → J1 1 i = J 1 (i - 12)) := by
  intro n
  induction n with
  | zero => intro x _ _ _ h; omega
  | succ n ih =>
    intro x J2 hx1 hx2 hxn f0 f1 f2
    rw [show nI x - 1 = nI (x - 1) from pk_sub (b := 1) (by omega)]
    show ∃ J1, mi_X9_clamps_B106 _ F J2 _ _ _ = _ ∧ _
    unfold mi_X9_clamps_B106 mi_X9_bottleAt
    by_cases c : x = 33 + 12 * r
    · simp (disch := omega) only [zi_lit, zi_add, zi_mul, zi_le, zi_lt, zi_cl, Nat.not_lt_zero, zn_nle, zn_yle, zn_nlt, zn_ylt, if_false, if_true, or_false, false_or, mz_bn]
      exact ⟨J2, rfl, f0, fun i hi => f1 i (by omega), fun i i1 i2 => f2 i (by omega) i2⟩
    · simp (disch := omega) only [zi_lit, zi_add, zi_mul, zi_le, zi_lt, zi_cl, Nat.not_lt_zero, zn_nle, zn_yle, zn_nlt, zn_ylt, if_false, if_true, or_false, false_or, mz_bn]
      rw [← show nI (x - 1) - 1 = nI (x - 1) + -nI 1 from zn_subm (nI (x - 1)), show x - 1 + 12 = x + 11 by omega]
      refine ih (x - 1) _ (by omega) (by omega) (by omega) (fun y hy => by rw [mz_ux _ hy]; exact f0 y hy) (fun i hi => ?_) (fun i i1 i2 => ?_)
      · rw [mz_u, if_neg (by omega)]
        exact f1 i (by omega)
      · rw [mz_u]
        by_cases hi : i = x + 11
        · subst hi
          rw [if_pos ⟨rfl, rfl⟩, f1 _ (by omega), show x + 11 - 12 = x - 1 by omega]
        · rw [if_neg (fun q => hi q.2)]
          exact f2 i (by omega) i2
theorem zr_cellsL {J : Nat → Nat → Int32} {F r h p nb : Nat} (hr : r ≤ nb) (hn : nb < 10) (h1 : J 1 1 = nI p) (h4 : J 1 4 = nI nb) : ∀ (n c : Nat) (J2 : Nat → Nat → Int32), c ≤ 12 → 12 - c < n → (∀ y, y ≠ 1 → J2 y = J y) → (∀ i, i < 33 + 12 * r ∨ 33 + 12 * r + 12 ≤ i → J2 1 i = J 1 i) → (∀ j, j < c → J2 1 (33 + 12 * r + j) = if j = 0 then nI p else if j = 2 then nI h else nI 0) → ∃ J1, mi_X9_clamps_L138 F n J2 (nI h) (nI r) (nI c) = some (J1, nI r) ∧ (∀ y, y ≠ 1 → J1 y = J y) ∧ (∀ i, i ≠ 4 → (i < 33 + 12 * r ∨ 33 + 12 * r + 12 ≤ i) → J1 1 i = J 1 i) ∧ J1 1 4 = nI (nb + 1) ∧ (∀ j, j < 12 → J1 1 (33 + 12 * r + j) = if j = 0 then nI p else if j = 2 then nI h else nI 0) := by
  intro n
  induction n with
  | zero => intro c _ _ h; omega
  | succ n ih =>
    intro c J2 hc hcn f0 f1 f2
    show ∃ J1, mi_X9_clamps_B138 _ F J2 _ _ _ = _ ∧ _
    unfold mi_X9_clamps_B138 mi_X9_bottleAt
    by_cases d : 12 ≤ c
    · have e4 : J2 1 4 = nI nb := by rw [f1 4 (by omega)]; exact h4
      simp (disch := omega) only [zi_lit, zi_add, zi_mul, zi_le, zi_lt, zi_cl, Nat.not_lt_zero, zn_nle, zn_yle, zn_nlt, zn_ylt, if_false, if_true, or_false, false_or, mz_bn, e4]
      refine ⟨_, rfl, fun y hy => by rw [mz_ux _ hy]; exact f0 y hy, fun i i1 i2 => ?_, ?_, fun j hj => ?_⟩
      · rw [mz_u, if_neg (fun q => i1 q.2)]
        exact f1 i i2
      · rw [mz_u, if_pos ⟨rfl, rfl⟩]
      · rw [mz_u, if_neg (by omega)]
        exact f2 j (by omega)
    · have e1 : J2 1 1 = nI p := by rw [f1 1 (by omega)]; exact h1
      simp (disch := omega) only [zi_lit, zi_add, zi_mul, zi_le, zi_lt, zi_cl, Nat.not_lt_zero, zn_nle, zn_yle, zn_nlt, zn_ylt, if_false, if_true, or_false, false_or, mz_bn, e1]
      rw [Nat.zero_add]
      have step : ∀ v : Int32, (v = if c = 0 then nI p else if c = 2 then nI h else nI 0) → ∃ J1, mi_X9_clamps_L138 F n (mc_u J2 1 (33 + 12 * r + c) v) (nI h) (nI r) (nI (c + 1)) = some (J1, nI r) ∧ (∀ y, y ≠ 1 → J1 y = J y) ∧ (∀ i, i ≠ 4 → (i < 33 + 12 * r ∨ 33 + 12 * r + 12 ≤ i) → J1 1 i = J 1 i) ∧ J1 1 4 = nI (nb + 1) ∧ (∀ j, j < 12 → J1 1 (33 + 12 * r + j) = if j = 0 then nI p else if j = 2 then nI h else nI 0) := by
        intro v hv
        refine ih (c + 1) _ (by omega) (by omega) (fun y hy => by rw [mz_ux _ hy]; exact f0 y hy) (fun i hi => ?_) (fun j hj => ?_)
        · rw [mz_u, if_neg (by omega)]
          exact f1 i hi
        · rw [mz_u]
          by_cases hjc : j = c
          · subst hjc
            rw [if_pos ⟨rfl, rfl⟩]
            exact hv
          · rw [if_neg (by omega)]
            exact f2 j (by omega)
      by_cases c0 : c = 0
      · subst c0
        rw [if_pos rfl]
        exact step _ rfl
      · rw [if_neg (show ¬ nI c = nI 0 from fun q => c0 ((nI_eq (by omega) (by omega)).mp q))]
        by_cases c2 : c = 2
        · subst c2
          rw [if_pos rfl]
          exact step _ rfl
        · rw [if_neg (show ¬ nI c = nI 2 from fun q => c2 ((nI_eq (by omega) (by omega)).mp q))]
          exact step _ (by rw [if_neg c0, if_neg c2])
theorem zr_clamp {J : Nat → Nat → Int32} {A : mz_A} {F h : Nat} (hF : 200 ≤ F) (hC : zz_RS J 0 A) (hW : zz_WF A) : ∃ J1, mi_X9_clamps F J (nI h) = some (J1, (sq_clamp h A).2) ∧ zz_frJ 0 J J1 ∧ zz_RS J1 0 (sq_clamp h A).1 := by
  obtain ⟨p, sl, lo, nb, nm, mb, ms, sc, bt⟩ := A
  obtain ⟨⟨w1, w2, w3, w4, w5⟩, x1, x2, x3, x4, x5⟩ := hW
  have hC' := hC
  obtain ⟨⟨h0, h1, h2, h3, h4, h5⟩, hsc, hm, hb⟩ := hC
  rw [Nat.zero_add] at h1 h2 h3 h4 h5
  unfold sq_clamp
  dsimp only
  unfold mi_X9_clamps
  simp (disch := omega) only [zi_lit, zi_add, zi_mul, zi_le, zi_lt, zi_cl, Nat.not_lt_zero, zn_nle, zn_yle, zn_nlt, zn_ylt, if_false, if_true, or_false, false_or, mz_bn, h4]
  by_cases c : nb = 10
  · rw [if_pos (show nI nb = nI 10 by rw [c]), if_pos c]
    exact ⟨J, rfl, zz_frJ.rfl, hC'⟩
  · rw [if_neg (show ¬ nI nb = nI 10 from fun q => c ((nI_eq (by omega) (by omega)).mp q)), if_neg c]
    rw [zr_scan (F := F) (h := nI h) hC' (by omega) w1 x1 x2 F nb 0 0 (by omega) (by omega) (by omega) (fun q q1 q2 => by omega)]
    cases hr : sp_nr p mb nb 0 0 with
    | none => exact ⟨J, rfl, zz_frJ.rfl, hC'⟩
    | some r =>
      obtain ⟨r1, r2, r3⟩ := sp_nr_ok x2 nb 0 0 r (by omega) (by omega) (fun q hq => by omega) (fun q q1 q2 => by omega) hr
      dsimp only
      obtain ⟨J1, e1, e2, e3, e4⟩ := zr_shiftL (J := J) (F := F) (r := r) (e := 33 + 12 * nb) (h := nI h) (by omega) (by omega) F (33 + 12 * nb) J (by omega) (by omega) (by omega) (fun _ _ => rfl) (fun _ _ => rfl) (fun i i1 i2 => by omega)
      rw [e1]
      obtain ⟨J3, d1, d2, d3, d4, d5⟩ := zr_cellsL (J := J1) (F := F) (r := r) (h := h) (p := p) (nb := nb) r1 (by omega) (by rw [e3 1 (by omega)]; exact h1) (by rw [e3 4 (by omega)]; exact h4) F 0 J1 (by omega) (by omega) (fun _ _ => rfl) (fun _ _ => rfl) (fun j hj => by omega)
      have o : ∀ i, i ≠ 4 → (i < 33 + 12 * r ∨ 33 + 12 * nb + 12 ≤ i) → J3 1 i = J 1 i := fun i i1 i2 => by rw [d3 i i1 (by omega), e3 i (by omega)]
      refine ⟨J3, d1, ⟨fun y hy => by rw [d2 y hy, e2 y hy], fun i hi => o i (by omega) (by omega)⟩, ⟨⟨?_, ?_, ?_, ?_, ?_, ?_⟩, fun k k1 k2 => ?_, fun k hk => ?_, fun k hk => ?_⟩⟩
      · rw [o 0 (by omega) (by omega)]; exact h0
      · rw [o _ (by omega) (by omega)]; exact h1
      · rw [o _ (by omega) (by omega)]; exact h2
      · rw [o _ (by omega) (by omega)]; exact h3
      · exact d4
      · rw [o _ (by omega) (by omega)]; exact h5
      · rw [o _ (by omega) (by omega)]; exact hsc k k1 k2
      · rw [o _ (by omega) (by omega), o _ (by omega) (by omega)]; exact hm k hk
      · rw [Nat.zero_add]
        rcases Nat.lt_trichotomy k r with q | q | q
        · rw [sp_ins1 q, sp_ins1 q, o _ (by omega) (by omega)]
          have := hb k (by omega)
          rw [Nat.zero_add] at this
          refine ⟨this.1, fun j j1 j2 => ?_⟩
          rw [o _ (by omega) (by omega)]
          exact this.2 j j1 j2
        · subst q
          rw [sp_ins2, sp_ins2]
          refine ⟨?_, fun j j1 j2 => ?_⟩
          · have := d5 0 (by omega)
            rw [if_pos rfl] at this
            exact this
          · rw [d5 j (by omega), if_neg (by omega)]
            rfl
        · rw [sp_ins3 q, sp_ins3 q]
          have := hb (k - 1) (by omega)
          rw [Nat.zero_add] at this
          refine ⟨?_, fun j j1 j2 => ?_⟩
          · rw [d3 _ (by omega) (by omega), e4 _ (by omega) (by omega), show 33 + 12 * k - 12 = 33 + 12 * (k - 1) by omega]
            exact this.1
          · rw [d3 _ (by omega) (by omega), e4 _ (by omega) (by omega), show 33 + 12 * k + j - 12 = 33 + 12 * (k - 1) + j by omega]
            exact this.2 j j1 j2
/-! take off -/
def sq_take (x : Int32) : mz_A → mz_A × Int32
  | (p, sl, lo, nb, nm, mb, ms, sc, bt) => if x < 0 ∨ nI nb ≤ x then ((p, sl, lo, nb, nm, mb, ms, sc, bt), -1001) else if mb x.toNatClampNeg < p then ((p, sl, lo, nb, nm, mb, ms, sc, bt), -1004) else ((p, sl, lo, nb - 1, nm, sp_del mb x.toNatClampNeg, ms, sc, sp_del bt x.toNatClampNeg), nI (nb - 1))
theorem sq_take_no {x : Int32} {p sl lo nb nm : Nat} {mb ms : Nat → Nat} {sc : Nat → Int32} {bt : Nat → Nat → Int32} (h : x < 0 ∨ nI nb ≤ x) : sq_take x (p, sl, lo, nb, nm, mb, ms, sc, bt) = ((p, sl, lo, nb, nm, mb, ms, sc, bt), -1001) := if_pos h
theorem sq_take_yes {k p sl lo nb nm : Nat} {mb ms : Nat → Nat} {sc : Nat → Int32} {bt : Nat → Nat → Int32} (hk : k < nb) (hn : nb ≤ 10) : sq_take (nI k) (p, sl, lo, nb, nm, mb, ms, sc, bt) = if mb k < p then ((p, sl, lo, nb, nm, mb, ms, sc, bt), -1004) else ((p, sl, lo, nb - 1, nm, sp_del mb k, ms, sc, sp_del bt k), nI (nb - 1)) := by
  unfold sq_take
  dsimp only
  rw [if_neg (fun q => q.elim (fun q => absurd q (zl_nlt (b := 0) (by omega) (by omega))) (fun q => absurd q (zl_nle (by omega) (by omega)))), zi_cl (by omega)]
theorem zw_take {A : mz_A} (x : Int32) (hW : zz_WF A) : zz_WF (sq_take x A).1 := by
  obtain ⟨p, sl, lo, nb, nm, mb, ms, sc, bt⟩ := A
  have hW' := hW
  obtain ⟨⟨w1, w2, w3, w4, w5⟩, x1, x2, x3, x4, x5⟩ := hW
  rcases zn_ix2 x (n := nb) (by omega) with h | h | ⟨k, hk, rfl⟩
  · rw [sq_take_no (Or.inl h)]
    exact hW'
  · rw [sq_take_no (Or.inr h)]
    exact hW'
  · rw [sq_take_yes hk w4]
    by_cases c : mb k < p
    · rw [if_pos c]
      exact hW'
    · rw [if_neg c]
      refine ⟨⟨w1, w2, w3, by omega, w5⟩, fun j hj => ?_, fun i j hij hj => ?_, x3, x4, fun j hj => ?_⟩
      · by_cases g : j < k
        · rw [sp_del1 g]; exact x1 j (by omega)
        · rw [sp_del2 (by omega)]; exact x1 _ (by omega)
      · by_cases g : i < k
        · rw [sp_del1 g]
          by_cases f : j < k
          · rw [sp_del1 f]; exact x2 i j hij (by omega)
          · rw [sp_del2 (by omega)]; exact x2 i _ (by omega) (by omega)
        · rw [sp_del2 (by omega), sp_del2 (by omega)]; exact x2 _ _ (by omega) (by omega)
      · by_cases g : j < k
        · rw [sp_del1 g]; exact x5 j (by omega)
        · rw [sp_del2 (by omega)]; exact x5 _ (by omega)
theorem zc_delL {I : Nat → Nat → Int32} {R : Nat → Nat → Option Nat} {F a nb k y : Nat} (h4 : I a 4 = nI nb) (hk : k < nb) (hn : nb ≤ 10) : ∀ (n i : Nat) (R2 : Nat → Nat → Option Nat), k ≤ i → i < nb → nb - i ≤ n → zz_frR a R R2 → (∀ j, j < k ∨ i ≤ j → R2 (a + 7) j = R (a + 7) j) → (∀ j, k ≤ j → j < i → R2 (a + 7) j = R (a + 7) (j + 1)) → ∃ R1, mi_X5_removeBottle_L34 F n I R2 a y (nI i) = some (mc_u I a 4 (nI (nb - 1)), R1, nI (nb - 1)) ∧ zz_frR a R R1 ∧ ∀ j, j < 10 → R1 (a + 7) j = if j < k then R (a + 7) j else if j = nb - 1 then some y else if j < nb then R (a + 7) (j + 1) else R (a + 7) j := by
  intro n
  induction n with
  | zero => intro i _ _ _ h; omega
  | succ n ih =>
    intro i R2 hki hin hlt f1 f2 f3
    show ∃ R1, mi_X5_removeBottle_B34 _ F I R2 _ _ _ = _ ∧ _
    unfold mi_X5_removeBottle_B34
    rw [h4, show nI nb - 1 = nI (nb - 1) from pk_sub (b := 1) (by omega)]
    by_cases c : i = nb - 1
    · subst c
      simp (disch := omega) only [zi_lit, zi_add, zi_mul, zi_le, zi_lt, zi_cl, Nat.not_lt_zero, zn_nle, zn_yle, zn_nlt, zn_ylt, if_false, if_true, or_false, false_or, mz_bn]
      unfold mi_X5_removeBottle_J74
      rw [h4, show nI nb - 1 = nI (nb - 1) from pk_sub (b := 1) (by omega)]
      have e : mc_u I a 4 (nI (nb - 1)) a 4 = nI (nb - 1) := by rw [mz_u, if_pos ⟨rfl, rfl⟩]
      simp (disch := omega) only [zi_lit, zi_add, zi_mul, zi_le, zi_lt, zi_cl, Nat.not_lt_zero, zn_nle, zn_yle, zn_nlt, zn_ylt, if_false, if_true, or_false, false_or, mz_bn, e]
      refine ⟨_, rfl, fun x hx => by rw [mz_ux _ hx]; exact f1 x hx, fun j hj => ?_⟩
      rw [mz_u]
      by_cases hj1 : j = nb - 1
      · rw [if_pos ⟨rfl, hj1⟩, if_neg (by omega), if_pos hj1]
      · rw [if_neg (fun q => hj1 q.2)]
        by_cases hj2 : j < k
        · rw [if_pos hj2]
          exact f2 j (Or.inl hj2)
        · rw [if_neg hj2, if_neg hj1]
          by_cases hj3 : j < nb
          · rw [if_pos hj3]
            exact f3 j (by omega) (by omega)
          · rw [if_neg hj3]
            exact f2 j (Or.inr (by omega))
    · simp (disch := omega) only [zi_lit, zi_add, zi_mul, zi_le, zi_lt, zi_cl, Nat.not_lt_zero, zn_nle, zn_yle, zn_nlt, zn_ylt, if_false, if_true, or_false, false_or, mz_bn]
      refine ih (i + 1) _ (by omega) (by omega) (by omega) (fun x hx => by rw [mz_ux _ hx]; exact f1 x hx) (fun j hj => ?_) (fun j j1 j2 => ?_)
      · rw [mz_u, if_neg (by omega)]
        exact f2 j (by omega)
      · rw [mz_u]
        by_cases hji : j = i
        · subst hji
          rw [if_pos ⟨rfl, rfl⟩]
          exact f2 _ (by omega)
        · rw [if_neg (fun q => hji q.2)]
          exact f3 j j1 (by omega)
theorem zc_take {I : Nat → Nat → Int32} {R : Nat → Nat → Option Nat} {a : Nat} {A : mz_A} {F : Nat} (hF : 20 ≤ F) (x : Int32) (hC : zz_CS I R a A) (hR : zz_RW R a) (hW : zz_WF A) : ∃ I1 R1, mi_X5_removeBottle F I R a x = some (I1, R1, (sq_take x A).2) ∧ zz_fr a I I1 ∧ zz_frR a R R1 ∧ zz_RW R1 a ∧ zz_CS I1 R1 a (sq_take x A).1 := by
  obtain ⟨p, sl, lo, nb, nm, mb, ms, sc, bt⟩ := A
  obtain ⟨⟨w1, w2, w3, w4, w5⟩, x1, x2, x3, x4, x5⟩ := hW
  have hC' := hC
  obtain ⟨⟨h0, h1, h2, h3, h4, h5, h6, h7, h8, h9, h10, h11, h12⟩, hw, hm, hb⟩ := hC
  have no : (x < 0 ∨ nI nb ≤ x) → ∃ I1 R1, mi_X5_removeBottle F I R a x = some (I1, R1, (sq_take x (p, sl, lo, nb, nm, mb, ms, sc, bt)).2) ∧ zz_fr a I I1 ∧ zz_frR a R R1 ∧ zz_RW R1 a ∧ zz_CS I1 R1 a (sq_take x (p, sl, lo, nb, nm, mb, ms, sc, bt)).1 := by
    intro h
    rw [sq_take_no h]
    unfold mi_X5_removeBottle
    rw [zc_bottleNo h3 h]
    exact ⟨I, R, rfl, zz_fr.rfl, fun _ _ => rfl, hR, hC'⟩
  rcases zn_ix2 x (n := nb) (by omega) with h | h | ⟨k, hk, rfl⟩
  · exact no (Or.inl h)
  · exact no (Or.inr h)
  · rw [sq_take_yes hk w4]
    unfold mi_X5_removeBottle
    rw [zc_bottleAt hR h3 w4 hk, mz_ob, mz_oms, (hb k hk).1, zc_inw h0 w1 (x1 k hk)]
    by_cases c : mb k < p
    · rw [if_pos c, if_neg (show ¬ p ≤ mb k by omega), if_neg (by decide)]
      exact ⟨I, R, rfl, zz_fr.rfl, fun _ _ => rfl, hR, hC'⟩
    · rw [if_neg c, if_pos (show p ≤ mb k by omega), if_pos rfl]
      obtain ⟨R1, e1, e2, e3⟩ := zc_delL (I := I) (R := R) (F := F) (y := zz_bp R a k) h3 hk w4 F k R (Nat.le_refl _) hk (by omega) (fun _ _ => rfl) (fun _ _ => rfl) (fun j j1 j2 => by omega)
      have e3' : ∀ j, j < 10 → R1 (a + 7) j = R (a + 7) (if j < k then j else if j = nb - 1 then k else if j < nb then j + 1 else j) := fun j hj => by
        rw [e3 j hj]
        split
        · rfl
        · split
          · exact (hR k (by omega)).1.symm
          · split <;> rfl
      have g2 : ∀ j, j < 10 → zz_bp R1 a j = zz_bp R a (if j < k then j else if j = nb - 1 then k else if j < nb then j + 1 else j) := fun j hj => by
        unfold zz_bp
        rw [e3' j hj]
      have g1 : zz_RW R1 a := by
        intro j hj
        rw [g2 j hj, e3' j hj]
        have hj2 : (if j < k then j else if j = nb - 1 then k else if j < nb then j + 1 else j) < 10 := by
          split
          · omega
          · split
            · omega
            · split <;> omega
        refine ⟨(hR _ hj2).1, (hR _ hj2).2.1, (hR _ hj2).2.2.1, fun i hi e => ?_⟩
        rw [g2 i hi] at e
        have hi2 : (if i < k then i else if i = nb - 1 then k else if i < nb then i + 1 else i) < 10 := by
          split
          · omega
          · split
            · omega
            · split <;> omega
        have := (hR _ hj2).2.2.2 _ hi2 e
        revert this
        split
        · split
          · omega
          · split
            · omega
            · split <;> omega
        · split
          · split
            · omega
            · split
              · omega
              · split <;> omega
          · split
            · split
              · omega
              · split
                · omega
                · split <;> omega
            · split
              · omega
              · split
                · omega
                · split <;> omega
      have o : ∀ x, x ≠ a → mc_u I a 4 (nI (nb - 1)) x = I x := fun x hx => mz_ux _ hx
      have o6 : ∀ j, j ≠ 4 → mc_u I a 4 (nI (nb - 1)) a j = I a j := fun j hj => by rw [mz_u, if_neg (fun q => hj q.2)]
      refine ⟨_, R1, e1, zu_fr (by omega) (by omega), e2, g1, ⟨⟨?_, ?_, ?_, ?_, ?_, ?_, ?_, ?_, ?_, ?_, ?_, ?_, ?_⟩, fun k hk => ?_, fun k hk => ?_, fun j hj => ?_⟩⟩
      · rw [o _ (by omega)]; exact h0
      · rw [o _ (by omega)]; exact h1
      · rw [o _ (by omega)]; exact h2
      · rw [mz_u, if_pos ⟨rfl, rfl⟩]
      · rw [o _ (by omega)]; exact h4
      · rw [o6 _ (by omega)]; exact h5
      · rw [o6 _ (by omega)]; exact h6
      · rw [o6 _ (by omega)]; exact h7
      · rw [o _ (by omega)]; exact h8
      · rw [o _ (by omega)]; exact h9
      · rw [o _ (by omega)]; exact h10
      · rw [o _ (by omega)]; exact h11
      · rw [o _ (by omega)]; exact h12
      · rw [o _ (by omega), o _ (by omega)]; exact hw k hk
      · rw [o _ (by omega)]; exact hm k hk
      · have hkp : ∀ j, j < nb → zz_bp R a j ≠ a := fun j hj => by have := (hR j (by omega)).2.1; omega
        rw [g2 j (by omega)]
        by_cases q : j < k
        · rw [sp_del1 q, sp_del1 q, if_pos q, o _ (hkp j (by omega))]
          exact hb j (by omega)
        · rw [sp_del2 (by omega), sp_del2 (by omega), if_neg q, if_neg (by omega), if_pos (by omega), o _ (hkp _ (by omega))]
          exact hb _ (by omega)
theorem zr_isBottleNo {J : Nat → Nat → Int32} {x : Int32} {nb : Nat} (h4 : J 1 4 = nI nb) (hn : nb ≤ 10) (h : x < 0 ∨ nI nb ≤ x) : mi_X9_isBottle J x = some 0 := by
  unfold mi_X9_isBottle
  simp (disch := omega) only [zi_lit, zi_add, zi_mul, zi_le, zi_lt, zi_cl, Nat.not_lt_zero, zn_nle, zn_yle, zn_nlt, zn_ylt, if_false, if_true, or_false, false_or, mz_bn, h4]
  congr 1
  by_cases h0 : x < 0
  · exact zr_in0 (Or.inl h0)
  · refine zr_in0 (Or.inr ?_)
    have h1 := h.resolve_left h0
    cases nb with
    | zero =>
      show nI 0 - nI 1 < x
      have e : nI 0 - nI 1 = -1 := by decide
      rw [e]
      rw [Int32.lt_iff_toInt_lt] at h0 ⊢
      have e0 : (0 : Int32).toInt = 0 := by decide
      have e1 : (-1 : Int32).toInt = -1 := by decide
      omega
    | succ m =>
      rw [show nI (m + 1) - nI 1 = nI m from pk_sub (by omega)]
      rw [Int32.le_iff_toInt_le, nI_toInt (by omega)] at h1
      rw [Int32.lt_iff_toInt_lt, nI_toInt (by omega)]
      omega
theorem zr_isBottleYes {J : Nat → Nat → Int32} {k nb : Nat} (h4 : J 1 4 = nI nb) (hn : nb ≤ 10) (hk : k < nb) : mi_X9_isBottle J (nI k) = some 1 := by
  unfold mi_X9_isBottle
  simp (disch := omega) only [zi_lit, zi_add, zi_mul, zi_le, zi_lt, zi_cl, Nat.not_lt_zero, zn_nle, zn_yle, zn_nlt, zn_ylt, if_false, if_true, or_false, false_or, mz_bn, h4]
  rw [show nI nb - nI 1 = nI (nb - 1) from pk_sub (by omega), zr_inN (by omega) (by omega) (by omega)]
  rfl
theorem zr_delL {J : Nat → Nat → Int32} {F k nb : Nat} (hk : k < nb) (hn : nb ≤ 10) (h4 : J 1 4 = nI (nb - 1)) : ∀ (n x : Nat) (J2 : Nat → Nat → Int32), 33 + 12 * k ≤ x → x ≤ 33 + 12 * (nb - 1) → 33 + 12 * (nb - 1) - x < n → (∀ y, y ≠ 1 → J2 y = J y) → (∀ i, i < 33 + 12 * k ∨ x ≤ i → J2 1 i = J 1 i) → (∀ i, 33 + 12 * k ≤ i → i < x → J2 1 i = J 1 (i + 12)) → ∃ J1, mi_X9_takes_L41 F n J2 (nI x) = some (J1, nI (nb - 1)) ∧ (∀ y, y ≠ 1 → J1 y = J y) ∧ (∀ i, i < 33 + 12 * k ∨ 33 + 12 * (nb - 1) ≤ i → J1 1 i = J 1 i) ∧ (∀ i, 33 + 12 * k ≤ i → i < 33 + 12 * (nb - 1) → J1 1 i = J 1 (i + 12)) := by
  intro n
  induction n with
  | zero => intro x _ _ _ h; omega
  | succ n ih =>
    intro x J2 hx1 hx2 hxn f0 f1 f2
    show ∃ J1, mi_X9_takes_B41 _ F J2 _ = _ ∧ _
    have e4 : J2 1 4 = nI (nb - 1) := by rw [f1 4 (by omega)]; exact h4
    unfold mi_X9_takes_B41 mi_X9_bottleAt
    by_cases c : x = 33 + 12 * (nb - 1)
    · simp (disch := omega) only [zi_lit, zi_add, zi_mul, zi_le, zi_lt, zi_cl, Nat.not_lt_zero, zn_nle, zn_yle, zn_nlt, zn_ylt, if_false, if_true, or_false, false_or, mz_bn, e4]
      exact ⟨J2, rfl, f0, fun i hi => f1 i (by omega), fun i i1 i2 => f2 i i1 (by omega)⟩
    · simp (disch := omega) only [zi_lit, zi_add, zi_mul, zi_le, zi_lt, zi_cl, Nat.not_lt_zero, zn_nle, zn_yle, zn_nlt, zn_ylt, if_false, if_true, or_false, false_or, mz_bn, e4]
      refine ih (x + 1) _ (by omega) (by omega) (by omega) (fun y hy => by rw [mz_ux _ hy]; exact f0 y hy) (fun i hi => ?_) (fun i i1 i2 => ?_)
      · rw [mz_u, if_neg (by omega)]
        exact f1 i (by omega)
      · rw [mz_u]
        by_cases hi : i = x
        · subst hi
          rw [if_pos ⟨rfl, rfl⟩, f1 _ (by omega)]
        · rw [if_neg (fun q => hi q.2)]
          exact f2 i i1 (by omega)
theorem zr_take {J : Nat → Nat → Int32} {A : mz_A} {F : Nat} (hF : 200 ≤ F) (x : Int32) (hC : zz_RS J 0 A) (hW : zz_WF A) : ∃ J1, mi_X9_takes F J x = some (J1, (sq_take x A).2) ∧ zz_frJ 0 J J1 ∧ zz_RS J1 0 (sq_take x A).1 := by
  obtain ⟨p, sl, lo, nb, nm, mb, ms, sc, bt⟩ := A
  obtain ⟨⟨w1, w2, w3, w4, w5⟩, x1, x2, x3, x4, x5⟩ := hW
  have hC' := hC
  obtain ⟨⟨h0, h1, h2, h3, h4, h5⟩, hsc, hm, hb⟩ := hC
  have h1' := h1
  rw [Nat.zero_add] at h1 h2 h3 h4 h5
  unfold mi_X9_takes
  have no : (x < 0 ∨ nI nb ≤ x) → ∃ J1, mi_X9_takes F J x = some (J1, (sq_take x (p, sl, lo, nb, nm, mb, ms, sc, bt)).2) ∧ zz_frJ 0 J J1 ∧ zz_RS J1 0 (sq_take x (p, sl, lo, nb, nm, mb, ms, sc, bt)).1 := by
    intro h
    rw [sq_take_no h]
    unfold mi_X9_takes
    rw [zr_isBottleNo h4 w4 h, mz_ob, if_pos rfl]
    exact ⟨J, rfl, zz_frJ.rfl, hC'⟩
  rcases zn_ix2 x (n := nb) (by omega) with h | h | ⟨k, hk, rfl⟩
  · exact no (Or.inl h)
  · exact no (Or.inr h)
  · have hbk := hb k hk
    rw [sq_take_yes hk w4, zr_isBottleYes h4 w4 hk, mz_ob, if_neg (by decide), show mi_X9_isInWater J 0 (nI k) = _ from zr_inw (b := 0) (by omega) (by omega) h1' hbk.1 w1 (x1 k hk)]
    by_cases c : mb k < p
    · rw [if_pos c, if_neg (show ¬ p ≤ mb k by omega), mz_ob, if_neg (by decide)]
      exact ⟨J, rfl, zz_frJ.rfl, hC'⟩
    · rw [if_neg c, if_pos (show p ≤ mb k by omega), mz_ob, if_pos rfl]
      unfold mi_X9_bottleAt
      simp (disch := omega) only [zi_lit, zi_add, zi_mul, zi_le, zi_lt, zi_cl, Nat.not_lt_zero, zn_nle, zn_yle, zn_nlt, zn_ylt, if_false, if_true, or_false, false_or, mz_bn, h4]
      rw [Nat.zero_add, show nI nb - nI 1 = nI (nb - 1) from pk_sub (by omega)]
      obtain ⟨J3, d1, d2, d3, d4⟩ := zr_delL (J := mc_u J 1 4 (nI (nb - 1))) (F := F) hk w4 (by rw [mz_u, if_pos ⟨rfl, rfl⟩]) F (33 + 12 * k) _ (Nat.le_refl _) (by omega) (by omega) (fun _ _ => rfl) (fun _ _ => rfl) (fun i i1 i2 => by omega)
      have o : ∀ i, i ≠ 4 → (i < 33 + 12 * k ∨ 33 + 12 * (nb - 1) ≤ i) → J3 1 i = J 1 i := fun i i1 i2 => by rw [d3 i i2, mz_u, if_neg (fun q => i1 q.2)]
      have o2 : ∀ i, 33 + 12 * k ≤ i → i < 33 + 12 * (nb - 1) → J3 1 i = J 1 (i + 12) := fun i i1 i2 => by rw [d4 i i1 i2, mz_u, if_neg (by omega)]
      refine ⟨J3, d1, ⟨fun y hy => by rw [d2 y hy, mz_ux _ hy], fun i hi => o i (by omega) (by omega)⟩, ⟨⟨?_, ?_, ?_, ?_, ?_, ?_⟩, fun k k1 k2 => ?_, fun k hk => ?_, fun j hj => ?_⟩⟩
      · rw [o 0 (by omega) (by omega)]; exact h0
      · rw [o _ (by omega) (by omega)]; exact h1
      · rw [o _ (by omega) (by omega)]; exact h2
      · rw [o _ (by omega) (by omega)]; exact h3
      · show J3 1 4 = _
        rw [d3 4 (by omega), mz_u, if_pos ⟨rfl, rfl⟩]
      · rw [o _ (by omega) (by omega)]; exact h5
      · rw [o _ (by omega) (by omega)]; exact hsc k k1 k2
      · rw [o _ (by omega) (by omega), o _ (by omega) (by omega)]; exact hm k hk
      · rw [Nat.zero_add]
        by_cases q : j < k
        · rw [sp_del1 q, sp_del1 q, o _ (by omega) (by omega)]
          have := hb j (by omega)
          rw [Nat.zero_add] at this
          refine ⟨this.1, fun i j1 j2 => ?_⟩
          rw [o _ (by omega) (by omega)]
          exact this.2 i j1 j2
        · rw [sp_del2 (by omega), sp_del2 (by omega)]
          have := hb (j + 1) (by omega)
          rw [Nat.zero_add] at this
          refine ⟨?_, fun i j1 j2 => ?_⟩
          · rw [o2 _ (by omega) (by omega), show 33 + 12 * j + 12 = 33 + 12 * (j + 1) by omega]
            exact this.1
          · rw [o2 _ (by omega) (by omega), show 33 + 12 * j + i + 12 = 33 + 12 * (j + 1) + i by omega]
            exact this.2 i j1 j2

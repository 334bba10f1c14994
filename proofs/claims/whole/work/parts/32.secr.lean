/-! one second in the reference -/
def mz_enc : Option Nat → Int32
  | none => -1005
  | some k => nI k
theorem mz_enc_no {k : Nat} (h : k ≤ 99999) : ¬ nI k = -1005 := fun q => by
  have := congrArg Int32.toInt q
  rw [nI_toInt (by omega)] at this
  have h9 : (-1005 : Int32).toInt = -1005 := by decide
  rw [h9] at this
  omega
theorem zr_metL {J : Nat → Nat → Int32} {fl : Nat → Int32} {F b p sl lo nb nm m w : Nat} {mb ms : Nat → Nat} {sc : Nat → Int32} {bt : Nat → Nat → Int32} (hb0 : b ≤ 1239) (hC : zz_RT J b fl (p, sl, lo, nb, nm, mb, ms, sc, bt)) (hn : nb ≤ 10) (hp : p ≤ 999) (hmb : ∀ k, k < nb → mb k ≤ 999) (hm : m ≤ 999) (hw : w ≤ 999) : ∀ (n i : Nat), i ≤ nb → nb - i < n → mi_X9_met_L8 F n J (nI b) (nI m) (nI m - nI w) (mz_enc (sp_hit p m w mb i)) (nI i) = some (mz_enc (sp_hit p m w mb nb)) := by
  intro n
  induction n with
  | zero => intro i _ h; omega
  | succ n ih =>
    intro i hi hin
    show mi_X9_met_B8 _ F J _ _ _ _ _ = _
    obtain ⟨⟨-, h1, -, -, h4, -⟩, -, -, hb⟩ := hC
    unfold mi_X9_met_B8
    by_cases c : i = nb
    · subst c
      simp (disch := omega) only [zi_lit, zi_add, zi_mul, zi_le, zi_lt, zi_cl, Nat.not_lt_zero, zn_nle, zn_yle, zn_nlt, zn_ylt, if_false, if_true, or_false, false_or, mz_bn, h4]
    · have hi2 : i < nb := by omega
      have hg := hmb i hi2
      rw [zr_inw hb0 (by omega) h1 (hb i hi2).1 hp hg]
      unfold mi_X9_bottleAt
      simp (disch := omega) only [zi_lit, zi_add, zi_mul, zi_le, zi_lt, zi_cl, Nat.not_lt_zero, zn_nle, zn_yle, zn_nlt, zn_ylt, if_false, if_true, or_false, false_or, mz_bn, h4, (hb i hi2).1]
      have ihh := ih (i + 1) (by omega) (by omega)
      have hu : sp_hit p m w mb (i + 1) = if mb i < m ∧ m ≤ mb i + w ∧ mb i < p then some i else sp_hit p m w mb i := rfl
      rw [hu] at ihh
      by_cases c3 : mb i < p
      · rw [if_neg (show ¬ p ≤ mb i by omega), mz_ob, if_neg (show ¬ nI 1 = nI 0 by decide)]
        by_cases c1 : mb i < m
        · rw [if_neg (show ¬ m ≤ mb i by omega)]
          by_cases c2 : m ≤ mb i + w
          · rw [if_neg (show ¬ nI (mb i) < nI m - nI w by rw [zn_ltsub (by omega) (by omega) (by omega)]; omega)]
            rw [if_pos ⟨c1, c2, c3⟩] at ihh
            exact ihh
          · rw [if_pos (show nI (mb i) < nI m - nI w by rw [zn_ltsub (by omega) (by omega) (by omega)]; omega)]
            rw [if_neg (fun q => c2 q.2.1)] at ihh
            exact ihh
        · rw [if_pos (show m ≤ mb i by omega)]
          rw [if_neg (fun q => c1 q.1)] at ihh
          exact ihh
      · rw [if_pos (show p ≤ mb i by omega), mz_ob, if_pos rfl]
        rw [if_neg (fun q => c3 q.2.2)] at ihh
        exact ihh
theorem zt_mid {J J1 : Nat → Nat → Int32} {fl fl1 : Nat → Int32} {b p sl lo nb nm nm1 : Nat} {mb ms ms1 : Nat → Nat} {sc : Nat → Int32} {bt : Nat → Nat → Int32} (hC : zz_RT J b fl (p, sl, lo, nb, nm, mb, ms, sc, bt)) (hn : nb ≤ 10) (h1 : ∀ i, b ≤ i → i < b + 153 → i ≠ b + 5 → J1 1 i = J 1 i) (h5 : J1 1 (b + 5) = nI nm1) (hm : ∀ k, k < nm1 → J1 1 (b + 153 + 2 * k) = nI (ms1 k) ∧ J1 1 (b + 154 + 2 * k) = fl1 k) : zz_RT J1 b fl1 (p, sl, lo, nb, nm1, mb, ms1, sc, bt) := by
  obtain ⟨⟨g0, g1, g2, g3, g4, -⟩, hs, -, hb⟩ := hC
  refine ⟨⟨?_, ?_, ?_, ?_, ?_, h5⟩, fun k k1 k2 => ?_, hm, fun k hk => ⟨?_, fun j j1 j2 => ?_⟩⟩
  · rw [h1 _ (by omega) (by omega) (by omega)]; exact g0
  · rw [h1 _ (by omega) (by omega) (by omega)]; exact g1
  · rw [h1 _ (by omega) (by omega) (by omega)]; exact g2
  · rw [h1 _ (by omega) (by omega) (by omega)]; exact g3
  · rw [h1 _ (by omega) (by omega) (by omega)]; exact g4
  · rw [h1 _ (by omega) (by omega) (by omega)]; exact hs k k1 k2
  · rw [h1 _ (by omega) (by omega) (by omega)]; exact (hb k hk).1
  · rw [h1 _ (by omega) (by omega) (by omega)]; exact (hb k hk).2 j j1 j2
theorem zr_removesL {J : Nat → Nat → Int32} {F b l cur : Nat} (hb0 : b ≤ 1239) (hl : l < cur) (hc : cur ≤ 12) (h5 : J 1 (b + 5) = nI (cur - 1)) : ∀ (n x : Nat) (J2 : Nat → Nat → Int32), b + 153 + 2 * l ≤ x → x ≤ b + 153 + 2 * (cur - 1) → b + 153 + 2 * (cur - 1) - x < n → (∀ y, y ≠ 1 → J2 y = J y) → (∀ i, i < b + 153 + 2 * l ∨ x ≤ i → J2 1 i = J 1 i) → (∀ i, b + 153 + 2 * l ≤ i → i < x → J2 1 i = J 1 (i + 2)) → ∃ J1, mi_X9_removes_L18 F n J2 (nI b) (nI x) = some J1 ∧ (∀ y, y ≠ 1 → J1 y = J y) ∧ (∀ i, i < b + 153 + 2 * l ∨ b + 153 + 2 * (cur - 1) ≤ i → J1 1 i = J 1 i) ∧ (∀ i, b + 153 + 2 * l ≤ i → i < b + 153 + 2 * (cur - 1) → J1 1 i = J 1 (i + 2)) := by
  intro n
  induction n with
  | zero => intro x _ _ _ h; omega
  | succ n ih =>
    intro x J2 hx1 hx2 hxn f0 f1 f2
    show ∃ J1, mi_X9_removes_B18 _ F J2 _ _ = _ ∧ _
    have e5 : J2 1 (b + 5) = nI (cur - 1) := by rw [f1 _ (by omega)]; exact h5
    unfold mi_X9_removes_B18 mi_X9_messengerAt
    by_cases c : x = b + 153 + 2 * (cur - 1)
    · subst c
      simp (disch := omega) only [zi_lit, zi_add, zi_mul, zi_le, zi_lt, zi_cl, Nat.not_lt_zero, zn_nle, zn_yle, zn_nlt, zn_ylt, if_false, if_true, or_false, false_or, mz_bn, e5]
      exact ⟨J2, rfl, f0, fun i hi => f1 i hi, fun i i1 i2 => f2 i i1 i2⟩
    · simp (disch := omega) only [zi_lit, zi_add, zi_mul, zi_le, zi_lt, zi_cl, Nat.not_lt_zero, zn_nle, zn_yle, zn_nlt, zn_ylt, if_false, if_true, or_false, false_or, mz_bn, e5]
      refine ih (x + 1) _ (by omega) (by omega) (by omega) (fun y hy => by rw [mz_ux _ hy]; exact f0 y hy) (fun i hi => ?_) (fun i i1 i2 => ?_)
      · rw [mz_u, if_neg (by omega)]
        exact f1 i (by omega)
      · rw [mz_u]
        by_cases hi : i = x
        · subst hi
          rw [if_pos ⟨rfl, rfl⟩, f1 _ (by omega)]
        · rw [if_neg (fun q => hi q.2)]
          exact f2 i i1 (by omega)
theorem zr_removes {J : Nat → Nat → Int32} {fl : Nat → Int32} {F b p sl lo nb cur l : Nat} {mb ms : Nat → Nat} {sc : Nat → Int32} {bt : Nat → Nat → Int32} (hF : 200 ≤ F) (hb0 : b ≤ 1239) (hC : zz_RT J b fl (p, sl, lo, nb, cur, mb, ms, sc, bt)) (hn : nb ≤ 10) (hl : l < cur) (hc : cur ≤ 12) : ∃ J1, mi_X9_removes F J (nI b) (nI l) = some J1 ∧ zz_frJ b J J1 ∧ zz_RT J1 b (sp_del fl l) (p, sl, lo, nb, cur - 1, mb, sp_del ms l, sc, bt) := by
  have h5 : J 1 (b + 5) = nI cur := hC.1.2.2.2.2.2
  have hm := hC.2.2.1
  unfold mi_X9_removes mi_X9_messengerAt
  simp (disch := omega) only [zi_lit, zi_add, zi_mul, zi_le, zi_lt, zi_cl, Nat.not_lt_zero, zn_nle, zn_yle, zn_nlt, zn_ylt, if_false, if_true, or_false, false_or, mz_bn, h5]
  rw [show nI cur - nI 1 = nI (cur - 1) from pk_sub (by omega)]
  obtain ⟨J1, e1, e2, e3, e4⟩ := zr_removesL (J := mc_u J 1 (b + 5) (nI (cur - 1))) (F := F) hb0 hl hc (by rw [mz_u, if_pos ⟨rfl, rfl⟩]) F (b + 153 + 2 * l) _ (Nat.le_refl _) (by omega) (by omega) (fun _ _ => rfl) (fun _ _ => rfl) (fun i i1 i2 => by omega)
  have o : ∀ i, i ≠ b + 5 → (i < b + 153 + 2 * l ∨ b + 153 + 2 * (cur - 1) ≤ i) → J1 1 i = J 1 i := fun i i1 i2 => by rw [e3 i i2, mz_u, if_neg (fun q => i1 q.2)]
  have o2 : ∀ i, b + 153 + 2 * l ≤ i → i < b + 153 + 2 * (cur - 1) → J1 1 i = J 1 (i + 2) := fun i i1 i2 => by rw [e4 i i1 i2, mz_u, if_neg (by omega)]
  refine ⟨J1, e1, ⟨fun y hy => by rw [e2 y hy, mz_ux _ hy], fun i hi => o i (by omega) (by omega)⟩, zt_mid hC hn (fun i i1 i2 i3 => o i i3 (by omega)) (by rw [e3 _ (by omega), mz_u, if_pos ⟨rfl, rfl⟩]) (fun k hk => ?_)⟩
  by_cases q : k < l
  · rw [sp_del1 q, sp_del1 q, o _ (by omega) (by omega), o _ (by omega) (by omega)]
    exact hm k (by omega)
  · rw [sp_del2 (by omega), sp_del2 (by omega), o2 _ (by omega) (by omega), o2 _ (by omega) (by omega), show b + 153 + 2 * k + 2 = b + 153 + 2 * (k + 1) by omega, show b + 154 + 2 * k + 2 = b + 154 + 2 * (k + 1) by omega]
    exact hm (k + 1) (by omega)
theorem zr_startsL {J : Nat → Nat → Int32} {F b l cur g : Nat} {f : Int32} {ms : Nat → Nat} (hb0 : b ≤ 1239) (hl : l ≤ cur) (hc : cur < 12) (hg : g ≤ 999) (h5 : J 1 (b + 5) = nI cur) (hm : ∀ k, k < cur → J 1 (b + 153 + 2 * k) = nI (ms k)) (hms : ∀ k, k < cur → ms k ≤ 999) (hab : ∀ k, l ≤ k → k < cur → g < ms k) (hbe : ∀ k, k < l → ms k ≤ g) : ∀ (n x : Nat) (J2 : Nat → Nat → Int32), l ≤ x → x ≤ cur → x < n → (∀ y, y ≠ 1 → J2 y = J y) → (∀ i, i < b + 155 + 2 * x ∨ b + 155 + 2 * cur ≤ i → J2 1 i = J 1 i) → (∀ i, b + 155 + 2 * x ≤ i → i < b + 155 + 2 * cur → J2 1 i = J 1 (i - 2)) → ∃ J1, mi_X9_starts_L10 F n J2 (nI b) (nI g) f (nI x) = some J1 ∧ (∀ y, y ≠ 1 → J1 y = J y) ∧ (∀ i, i ≠ b + 5 → (i < b + 153 + 2 * l ∨ b + 155 + 2 * cur ≤ i) → J1 1 i = J 1 i) ∧ (∀ i, b + 155 + 2 * l ≤ i → i < b + 155 + 2 * cur → J1 1 i = J 1 (i - 2)) ∧ J1 1 (b + 153 + 2 * l) = nI g ∧ J1 1 (b + 154 + 2 * l) = f ∧ J1 1 (b + 5) = nI (cur + 1) := by
  intro n
  induction n with
  | zero => intro x _ _ _ h; omega
  | succ n ih =>
    intro x J2 hx1 hx2 hxn f0 f1 f2
    show ∃ J1, mi_X9_starts_B10 _ F J2 _ _ _ _ = _ ∧ _
    have e5 : J2 1 (b + 5) = nI cur := by rw [f1 _ (by omega)]; exact h5
    have last : x = l → ∃ J1, mi_X9_starts_J90 F J2 (nI b) (nI g) f (nI x) = some J1 ∧ (∀ y, y ≠ 1 → J1 y = J y) ∧ (∀ i, i ≠ b + 5 → (i < b + 153 + 2 * l ∨ b + 155 + 2 * cur ≤ i) → J1 1 i = J 1 i) ∧ (∀ i, b + 155 + 2 * l ≤ i → i < b + 155 + 2 * cur → J1 1 i = J 1 (i - 2)) ∧ J1 1 (b + 153 + 2 * l) = nI g ∧ J1 1 (b + 154 + 2 * l) = f ∧ J1 1 (b + 5) = nI (cur + 1) := by
      intro hxl
      subst hxl
      unfold mi_X9_starts_J90 mi_X9_messengerAt
      simp (disch := omega) only [zi_lit, zi_add, zi_mul, zi_le, zi_lt, zi_cl, Nat.not_lt_zero, zn_nle, zn_yle, zn_nlt, zn_ylt, if_false, if_true, or_false, false_or, mz_bn]
      rw [show mc_u (mc_u J2 1 (b + 153 + 2 * x) (nI g)) 1 (b + 153 + 2 * x + 1) f 1 (b + 5) = nI cur by rw [mz_u, if_neg (by omega), mz_u, if_neg (by omega)]; exact e5, zi_add]
      have o : ∀ i, i ≠ b + 5 → i ≠ b + 153 + 2 * x + 1 → i ≠ b + 153 + 2 * x → mc_u (mc_u (mc_u J2 1 (b + 153 + 2 * x) (nI g)) 1 (b + 153 + 2 * x + 1) f) 1 (b + 5) (nI (cur + 1)) 1 i = J2 1 i := fun i i1 i2 i3 => by
        rw [mz_u, if_neg (fun q => i1 q.2), mz_u, if_neg (fun q => i2 q.2), mz_u, if_neg (fun q => i3 q.2)]
      refine ⟨_, rfl, fun y hy => by rw [mz_ux _ hy, mz_ux _ hy, mz_ux _ hy]; exact f0 y hy, fun i i1 i2 => ?_, fun i i1 i2 => ?_, ?_, ?_, ?_⟩
      · rw [o i i1 (by omega) (by omega)]
        exact f1 i (by omega)
      · rw [o i (by omega) (by omega) (by omega)]
        exact f2 i i1 i2
      · rw [mz_u, if_neg (by omega), mz_u, if_neg (by omega), mz_u, if_pos ⟨rfl, rfl⟩]
      · rw [mz_u, if_neg (by omega), mz_u, if_pos ⟨rfl, by omega⟩]
      · rw [mz_u, if_pos ⟨rfl, rfl⟩]
    unfold mi_X9_starts_B10
    by_cases c0 : x = 0
    · rw [if_pos (show nI x ≤ 0 from zl_le (b := 0) (by omega) (by omega))]
      exact last (by omega)
    · rw [if_neg (show ¬ nI x ≤ 0 from zl_nle (b := 0) (by omega) (by omega))]
      rw [show nI x - 1 = nI (x - 1) from pk_sub (b := 1) (by omega)]
      unfold mi_X9_messengerAt
      have em : J2 1 (b + 153 + 2 * (x - 1)) = nI (ms (x - 1)) := by rw [f1 _ (by omega)]; exact hm _ (by omega)
      have hms' := hms (x - 1) (by omega)
      simp (disch := omega) only [zi_lit, zi_add, zi_mul, zi_le, zi_lt, zi_cl, Nat.not_lt_zero, zn_nle, zn_yle, zn_nlt, zn_ylt, if_false, if_true, or_false, false_or, mz_bn, em]
      by_cases cx : x = l
      · have := hbe (x - 1) (by omega)
        rw [if_pos this]
        exact last cx
      · have := hab (x - 1) (by omega) (by omega)
        rw [if_neg (show ¬ ms (x - 1) ≤ g by omega)]
        rw [show nI x + -nI 1 = nI (x - 1) from zi_pre (by omega)]
        have ef : mc_u J2 1 (b + 153 + 2 * x) (nI (ms (x - 1))) 1 (b + 153 + 2 * (x - 1) + 1) = J 1 (b + 153 + 2 * x + 1 - 2) := by
          rw [mz_u, if_neg (by omega), f1 _ (by omega), show b + 153 + 2 * x + 1 - 2 = b + 153 + 2 * (x - 1) + 1 by omega]
        rw [ef]
        refine ih (x - 1) _ (by omega) (by omega) (by omega) (fun y hy => by rw [mz_ux _ hy, mz_ux _ hy]; exact f0 y hy) (fun i hi => ?_) (fun i i1 i2 => ?_)
        · rw [mz_u, if_neg (by omega), mz_u, if_neg (by omega)]
          exact f1 i (by omega)
        · rw [mz_u]
          by_cases hi : i = b + 153 + 2 * x + 1
          · subst hi
            rw [if_pos ⟨rfl, rfl⟩]
          · rw [if_neg (fun q => hi q.2), mz_u]
            by_cases hi2 : i = b + 153 + 2 * x
            · subst hi2
              rw [if_pos ⟨rfl, rfl⟩, show b + 153 + 2 * x - 2 = b + 153 + 2 * (x - 1) by omega]
              exact (hm _ (by omega)).symm
            · rw [if_neg (fun q => hi2 q.2)]
              exact f2 i (by omega) i2
theorem zr_starts {J : Nat → Nat → Int32} {fl : Nat → Int32} {F b p sl lo nb cur l g : Nat} {f : Int32} {mb ms : Nat → Nat} {sc : Nat → Int32} {bt : Nat → Nat → Int32} (hF : 200 ≤ F) (hb0 : b ≤ 1239) (hC : zz_RT J b fl (p, sl, lo, nb, cur, mb, ms, sc, bt)) (hn : nb ≤ 10) (hl : l ≤ cur) (hc : cur < 12) (hg : g ≤ 999) (hms : ∀ k, k < cur → ms k ≤ 999) (hab : ∀ k, l ≤ k → k < cur → g < ms k) (hbe : ∀ k, k < l → ms k ≤ g) : ∃ J1, mi_X9_starts F J (nI b) (nI g) f = some J1 ∧ zz_frJ b J J1 ∧ zz_RT J1 b (sp_ins fl l f) (p, sl, lo, nb, cur + 1, mb, sp_ins ms l g, sc, bt) := by
  have h5 : J 1 (b + 5) = nI cur := hC.1.2.2.2.2.2
  have hm := hC.2.2.1
  unfold mi_X9_starts
  simp (disch := omega) only [zi_lit, zi_add, zi_mul, zi_le, zi_lt, zi_cl, Nat.not_lt_zero, zn_nle, zn_yle, zn_nlt, zn_ylt, if_false, if_true, or_false, false_or, mz_bn, h5]
  obtain ⟨J1, e1, e2, e3, e4, e5, e6, e7⟩ := zr_startsL (J := J) (F := F) (f := f) hb0 hl hc hg h5 (fun k hk => (hm k hk).1) hms hab hbe F cur J hl (Nat.le_refl _) (by omega) (fun _ _ => rfl) (fun _ _ => rfl) (fun i i1 i2 => by omega)
  refine ⟨J1, e1, ⟨e2, fun i hi => e3 i (by omega) (by omega)⟩, zt_mid hC hn (fun i i1 i2 i3 => e3 i i3 (by omega)) e7 (fun k hk => ?_)⟩
  rcases Nat.lt_trichotomy k l with q | q | q
  · rw [sp_ins1 q, sp_ins1 q, e3 _ (by omega) (by omega), e3 _ (by omega) (by omega)]
    exact hm k (by omega)
  · subst q
    rw [sp_ins2, sp_ins2]
    exact ⟨e5, e6⟩
  · rw [sp_ins3 q, sp_ins3 q, e4 _ (by omega) (by omega), e4 _ (by omega) (by omega), show b + 153 + 2 * k - 2 = b + 153 + 2 * (k - 1) by omega, show b + 154 + 2 * k - 2 = b + 154 + 2 * (k - 1) by omega]
    exact hm (k - 1) (by omega)
theorem zr_strike {J : Nat → Nat → Int32} {fl : Nat → Int32} {F b p sl lo nb cur l k : Nat} {mb ms : Nat → Nat} {sc : Nat → Int32} {bt : Nat → Nat → Int32} (hF : 200 ≤ F) (hb0 : b ≤ 1239) (hC : zz_RT J b fl (p, sl, lo, nb, cur, mb, ms, sc, bt)) (hp : p ≤ 999) (hs0 : sl ≤ 6) (hlo : lo ≤ 1) (hn : nb ≤ 10) (hl : l ≤ cur) (hc : cur < 12) (hk : k < nb) (hmk : mb k ≤ 999) (hms : ∀ k, k < cur → ms k ≤ 999) (hfl : sp_fl nb bt) (hab : ∀ j, l ≤ j → j < cur → mb k < ms j) (hbe : ∀ j, j < l → ms j ≤ mb k) : ∃ J1, mi_X9_strikes F J (nI b) (nI k) = some (J1, if bt k 1 = 0 then 1 else 0) ∧ zz_frJ b J J1 ∧ (bt k 1 = 0 ∧ ¬ bt k 2 = 0 → zz_RT J1 b (sp_ins fl l (nI 1)) (p, sl, lo, nb, cur + 1, mb, sp_ins ms l (mb k), va_up (va_up sc 8 (sc 8 + nI 1)) 7 (sc 7 + nI 1), va_up bt k (sp_sk p (sp_cs sl lo) sc (mb k) (bt k)))) ∧ (¬ (bt k 1 = 0 ∧ ¬ bt k 2 = 0) → zz_RT J1 b fl (p, sl, lo, nb, cur, mb, ms, va_up sc 8 (sc 8 + nI 1), va_up bt k (sp_sk p (sp_cs sl lo) sc (mb k) (bt k)))) := by
  obtain ⟨t1, t2, t4⟩ := hfl k hk
  have g3 : J 1 (b + 33 + 12 * k + 3) = bt k 3 := (hC.2.2.2 k hk).2 3 (by omega) (by omega)
  obtain ⟨q1, q2⟩ := zv_bt hC hn (by omega) (q := k) (r := 3) hk (by omega) (by omega) (bt k 3 + nI 1)
  have g8 : mc_u J 1 (b + 33 + 12 * k + 3) (bt k 3 + nI 1) 1 (b + 8) = sc 8 := q1.2.1 8 (by omega) (by omega)
  obtain ⟨r1, r2⟩ := zv_sc q1 hn (by omega) (q := 8) (by omega) (by omega) (sc 8 + nI 1)
  have ex : mi_X9_bottleAt (nI b) (nI k) = nI (b + 33 + 12 * k) := by
    unfold mi_X9_bottleAt
    simp (disch := omega) only [zi_lit, zi_add, zi_mul, zi_le, zi_lt, zi_cl, Nat.not_lt_zero, zn_nle, zn_yle, zn_nlt, zn_ylt, if_false, if_true, or_false, false_or, mz_bn]
  unfold mi_X9_strikes
  rw [ex, mz_bn]
  have y1 : (nI (b + 33 + 12 * k) < 0 ∨ 1416 ≤ (nI (b + 33 + 12 * k)).toNatClampNeg) = False := by simp (disch := omega) only [zi_lit, zi_add, zi_mul, zi_le, zi_lt, zi_cl, Nat.not_lt_zero, zn_nle, zn_yle, zn_nlt, zn_ylt, if_false, if_true, or_false, false_or, mz_bn]
  have y2 : ∀ j, j < 11 → (nI (b + 33 + 12 * k + j) < 0 ∨ 1416 ≤ (nI (b + 33 + 12 * k + j)).toNatClampNeg) = False := fun j hj => by simp (disch := omega) only [zi_lit, zi_add, zi_mul, zi_le, zi_lt, zi_cl, Nat.not_lt_zero, zn_nle, zn_yle, zn_nlt, zn_ylt, if_false, if_true, or_false, false_or, mz_bn]
  have y3 : ∀ j, j < 33 → (nI (b + j) < 0 ∨ 1416 ≤ (nI (b + j)).toNatClampNeg) = False := fun j hj => by simp (disch := omega) only [zi_lit, zi_add, zi_mul, zi_le, zi_lt, zi_cl, Nat.not_lt_zero, zn_nle, zn_yle, zn_nlt, zn_ylt, if_false, if_true, or_false, false_or, mz_bn]
  have y4 : ∀ j, j < 11 → (nI (b + 33 + 12 * k + j)).toNatClampNeg = b + 33 + 12 * k + j := fun j hj => zi_cl (by omega)
  have y5 : ∀ j, j < 33 → (nI (b + j)).toNatClampNeg = b + j := fun j hj => zi_cl (by omega)
  rw [show nI (b + 33 + 12 * k) + 3 = nI (b + 33 + 12 * k + 3) from nI_add _ 3, show nI (b + 33 + 12 * k) + 1 = nI (b + 33 + 12 * k + 1) from nI_add _ 1, show nI (b + 33 + 12 * k) + 2 = nI (b + 33 + 12 * k + 2) from nI_add _ 2, show nI b + 8 = nI (b + 8) from nI_add _ 8, show nI b + 7 = nI (b + 7) from nI_add _ 7]
  simp only [y2 3 (by omega), y2 1 (by omega), y2 2 (by omega), y3 7 (by omega), y3 8 (by omega), y1, if_false]
  simp only [y4 3 (by omega), y4 1 (by omega), y4 2 (by omega), y5 8 (by omega), y5 7 (by omega), mz_bn, g3, zi_cl (show b + 33 + 12 * k < 2147483648 by omega)]
  rw [show bt k 3 + 1 = bt k 3 + nI 1 from rfl, g8, show sc 8 + 1 = sc 8 + nI 1 from rfl]
  generalize mc_u J 1 (b + 33 + 12 * k + 3) (bt k 3 + nI 1) = J2 at q1 q2 r1 r2
  generalize mc_u J2 1 (b + 8) (sc 8 + nI 1) = J3 at r1 r2
  have g1 : J3 1 (b + 33 + 12 * k + 1) = bt k 1 := by
    rw [(r1.2.2.2 k hk).2 1 (by omega) (by omega), va_up_self, va_up_ne _ _ (by omega)]
  rw [g1]
  have esb : ∀ (t : Nat → Int32), sp_sb p (sp_cs sl lo) (va_up sc 8 (sc 8 + nI 1)) (mb k) t = sp_sb p (sp_cs sl lo) sc (mb k) t := fun t => sp_sb_sc2 (fun j hj => va_up_ne _ _ (by omega))
  by_cases c1 : bt k 1 = 0
  · rw [if_neg (show ¬ bt k 1 = 1 by rw [c1]; decide)]
    obtain ⟨J4, s1, s2, s3, -⟩ := zr_shutS hb0 r1 hp hs0 hlo hn (by omega) hk hmk
    rw [va_up_self, va_up_up, esb] at s3
    rw [s1, mz_ob]
    have hsk : sp_sk p (sp_cs sl lo) sc (mb k) (bt k) = if bt k 2 = 0 then sp_sb p (sp_cs sl lo) sc (mb k) (va_up (bt k) 3 (bt k 3 + nI 1)) else va_up (sp_sb p (sp_cs sl lo) sc (mb k) (va_up (bt k) 3 (bt k 3 + nI 1))) 2 0 := by
      unfold sp_sk
      rw [if_pos c1]
    have g2 : J4 1 (b + 33 + 12 * k + 2) = bt k 2 := by
      rw [(s3.2.2.2 k hk).2 2 (by omega) (by omega), va_up_self]
      rfl
    rw [g2, hsk]
    by_cases c2 : bt k 2 = 0
    · rw [if_neg (show ¬ bt k 2 = 1 by rw [c2]; decide), if_pos c2, if_pos c1]
      exact ⟨J4, rfl, (q2.trans r2).trans s2, fun q => absurd c2 q.2, fun _ => s3⟩
    · rw [if_pos (show bt k 2 = 1 from t2.resolve_left c2), if_neg c2, if_pos c1]
      obtain ⟨u1, u2⟩ := zv_bt s3 hn (by omega) (q := k) (r := 2) hk (by omega) (by omega) 0
      rw [va_up_self, va_up_up] at u1
      generalize mc_u J4 1 (b + 33 + 12 * k + 2) 0 = J5 at u1 u2
      have g7 : J5 1 (b + 7) = sc 7 := by
        rw [u1.2.1 7 (by omega) (by omega), va_up_ne _ _ (by omega)]
      rw [g7, show sc 7 + 1 = sc 7 + nI 1 from rfl]
      obtain ⟨v1, v2⟩ := zv_sc u1 hn (by omega) (q := 7) (by omega) (by omega) (sc 7 + nI 1)
      generalize mc_u J5 1 (b + 7) (sc 7 + nI 1) = J6 at v1 v2
      have g0 : J6 1 (b + 33 + 12 * k) = nI (mb k) := (v1.2.2.2 k hk).1
      rw [g0]
      obtain ⟨J7, y1, y2, y3⟩ := zr_starts (f := 1) hF hb0 v1 hn hl hc hmk hms hab hbe
      rw [y1, mz_ob]
      exact ⟨J7, rfl, ((((q2.trans r2).trans s2).trans u2).trans v2).trans y2, fun _ => y3, fun q => absurd ⟨c1, c2⟩ q⟩
  · rw [if_pos (show bt k 1 = 1 from t1.resolve_left c1), if_neg c1]
    have hsk : sp_sk p (sp_cs sl lo) sc (mb k) (bt k) = va_up (bt k) 3 (bt k 3 + nI 1) := by
      unfold sp_sk
      rw [if_neg c1]
    rw [hsk]
    exact ⟨J3, rfl, q2.trans r2, fun q => absurd q.1 c1, fun _ => r1⟩

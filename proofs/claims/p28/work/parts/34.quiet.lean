/-! many seconds; seconds in which nothing happens -/
def sp_it : Nat → mz_A → mz_A × Nat
  | 0, A => (A, 0)
  | n + 1, A => ((sp_it n (sq_sec A).1).1, (sq_sec A).2 + (sp_it n (sq_sec A).1).2)
theorem sp_it_add : ∀ (a b : Nat) (A : mz_A), sp_it (a + b) A = ((sp_it b (sp_it a A).1).1, (sp_it a A).2 + (sp_it b (sp_it a A).1).2) := by
  intro a
  induction a with
  | zero =>
    intro b A
    rw [Nat.zero_add]
    show sp_it b A = ((sp_it b A).1, 0 + (sp_it b A).2)
    rw [Nat.zero_add]
  | succ a ih =>
    intro b A
    rw [show a + 1 + b = (a + b) + 1 by omega]
    show ((sp_it (a + b) (sq_sec A).1).1, (sq_sec A).2 + (sp_it (a + b) (sq_sec A).1).2) = _
    rw [ih]
    show (_, (sq_sec A).2 + ((sp_it a (sq_sec A).1).2 + _)) = (_, ((sq_sec A).2 + (sp_it a (sq_sec A).1).2) + _)
    rw [Nat.add_assoc]
    rfl
theorem sp_it_one (A : mz_A) : sp_it 1 A = sq_sec A := by
  show ((sq_sec A).1, (sq_sec A).2 + 0) = sq_sec A
  rfl
theorem zw_it : ∀ (n : Nat) (A : mz_A), zz_WF A → zz_WF (sp_it n A).1 := by
  intro n
  induction n with
  | zero => intro A h; exact h
  | succ n ih => intro A h; exact ih _ (zw_sec h)
/-- how fast, also where all is held fast -/
def sp_ww (c : Nat) : Nat := if c < 6 then sp_w c else 0
def sp_qt (q : Nat) : mz_A → mz_A
  | (p, sl, lo, nb, nm, mb, ms, sc, bt) => (p, sl, lo, nb, nm, mb, (fun k => if k < nm then ms k - q * sp_ww (sp_cs sl lo) else ms k), va_up sc 0 (sc 0 + nI q), bt)
theorem sp_qt_add (q : Nat) (A : mz_A) : sp_qt q (sp_qt 1 A) = sp_qt (q + 1) A := by
  obtain ⟨p, sl, lo, nb, nm, mb, ms, sc, bt⟩ := A
  unfold sp_qt
  dsimp only
  congr 7
  · funext k
    by_cases h : k < nm
    · rw [if_pos h, if_pos h, if_pos h, Nat.one_mul, Nat.succ_mul]
      omega
    · rw [if_neg h, if_neg h, if_neg h]
  · rw [va_up_up, va_up_self, Int32.add_assoc, nI_add, Nat.add_comm 1 q]
theorem sp_qt0 (A : mz_A) : sp_qt 0 A = A := by
  obtain ⟨p, sl, lo, nb, nm, mb, ms, sc, bt⟩ := A
  unfold sp_qt
  have e1 : (fun k => if k < nm then ms k - 0 * sp_ww (sp_cs sl lo) else ms k) = ms := by
    funext k
    rw [Nat.zero_mul, Nat.sub_zero]
    split <;> rfl
  have e2 : va_up sc 0 (sc 0 + nI 0) = sc := by
    have : sc 0 + nI 0 = sc 0 := Int32.add_zero _
    rw [this, va_up_id]
  dsimp only
  rw [e1, e2]
theorem sp_lp_quiet {p c w nb nm : Nat} {mb ms : Nat → Nat} {sc : Nat → Int32} {bt : Nat → Nat → Int32} (h : ∀ k, k < nm → w < ms k ∧ sp_hit p (ms k) w mb nb = none) : ∀ (d i : Nat), i + d = nm → sp_lp p c w nb mb d i (i, (fun k => if k < i then ms k - w else ms k), sc, bt, 0) = (nm, (fun k => if k < nm then ms k - w else ms k), sc, bt, 0) := by
  intro d
  induction d with
  | zero =>
    intro i hid
    have : i = nm := by omega
    subst this
    rfl
  | succ d ih =>
    intro i hid
    obtain ⟨h1, h2⟩ := h i (by omega)
    show sp_lp p c w nb mb d (i + 1) (sp_one p c w nb mb (if i < i then ms i - w else ms i) _) = _
    rw [if_neg (Nat.lt_irrefl i)]
    unfold sp_one
    dsimp only
    rw [h2]
    dsimp only
    rw [if_pos h1]
    have e : va_up (fun k => if k < i then ms k - w else ms k) i (ms i - w) = fun k => if k < i + 1 then ms k - w else ms k := by
      funext k
      by_cases hk : k = i
      · subst hk
        rw [va_up_self, if_pos (by omega)]
      · rw [va_up_ne _ _ hk]
        by_cases hk2 : k < i
        · rw [if_pos hk2, if_pos (by omega)]
        · rw [if_neg hk2, if_neg (by omega)]
    rw [e]
    exact ih (i + 1) (by omega)
theorem sq_sec_quiet {p sl lo nb nm : Nat} {mb ms : Nat → Nat} {sc : Nat → Int32} {bt : Nat → Nat → Int32} (h : sp_cs sl lo < 6 → ∀ k, k < nm → sp_w (sp_cs sl lo) < ms k ∧ sp_hit p (ms k) (sp_w (sp_cs sl lo)) mb nb = none) : sq_sec (p, sl, lo, nb, nm, mb, ms, sc, bt) = (sp_qt 1 (p, sl, lo, nb, nm, mb, ms, sc, bt), 0) := by
  unfold sq_sec sp_qt sp_ww
  dsimp only
  by_cases c : sp_cs sl lo < 6
  · rw [if_pos c, if_pos c]
    have := sp_lp_quiet (c := sp_cs sl lo) (sc := va_up sc 0 (sc 0 + nI 1)) (bt := bt) (h c) nm 0 (by omega)
    have e0 : (fun k => if k < 0 then ms k - sp_w (sp_cs sl lo) else ms k) = ms := by
      funext k
      rw [if_neg (by omega)]
    rw [e0] at this
    rw [this, Nat.one_mul]
  · rw [if_neg c, if_neg c]
    have e0 : (fun k => if k < nm then ms k - 1 * 0 else ms k) = ms := by
      funext k
      split <;> rfl
    rw [e0]
theorem sp_it_quiet : ∀ (q : Nat) (p sl lo nb nm : Nat) (mb ms : Nat → Nat) (sc : Nat → Int32) (bt : Nat → Nat → Int32), (sp_cs sl lo < 6 → ∀ k, k < nm → ∀ r, r < q → sp_w (sp_cs sl lo) < ms k - r * sp_w (sp_cs sl lo) ∧ sp_hit p (ms k - r * sp_w (sp_cs sl lo)) (sp_w (sp_cs sl lo)) mb nb = none) → sp_it q (p, sl, lo, nb, nm, mb, ms, sc, bt) = (sp_qt q (p, sl, lo, nb, nm, mb, ms, sc, bt), 0) := by
  intro q
  induction q with
  | zero =>
    intro p sl lo nb nm mb ms sc bt _
    rw [sp_qt0]
    rfl
  | succ q ih =>
    intro p sl lo nb nm mb ms sc bt h
    have h1 := sq_sec_quiet (p := p) (sl := sl) (lo := lo) (nb := nb) (nm := nm) (mb := mb) (ms := ms) (sc := sc) (bt := bt) (fun c k hk => by
      have := h c k hk 0 (by omega)
      rw [Nat.zero_mul, Nat.sub_zero] at this
      exact this)
    show ((sp_it q (sq_sec _).1).1, (sq_sec _).2 + (sp_it q (sq_sec _).1).2) = _
    rw [h1]
    have h2 := ih p sl lo nb nm mb (fun k => if k < nm then ms k - 1 * sp_ww (sp_cs sl lo) else ms k) (va_up sc 0 (sc 0 + nI 1)) bt (fun c k hk r hr => by
      have := h c k hk (r + 1) (by omega)
      rw [if_pos hk, Nat.one_mul, show sp_ww (sp_cs sl lo) = sp_w (sp_cs sl lo) from if_pos c, Nat.sub_sub, Nat.add_comm, ← Nat.succ_mul]
      exact this)
    have h3 : sp_qt 1 (p, sl, lo, nb, nm, mb, ms, sc, bt) = (p, sl, lo, nb, nm, mb, (fun k => if k < nm then ms k - 1 * sp_ww (sp_cs sl lo) else ms k), va_up sc 0 (sc 0 + nI 1), bt) := rfl
    dsimp only
    rw [h3, h2, ← h3, sp_qt_add]
    rfl
/-- the next mark below, and the seconds to it -/
def sp_end (m : Nat) (mb : Nat → Nat) : Nat → Nat
  | 0 => 0
  | n + 1 => if mb n < m then mb n else sp_end m mb n
def sp_sow (m w : Nat) (mb : Nat → Nat) (nb : Nat) : Nat := if 1 < (m - sp_end m mb nb + w - 1) / w then (m - sp_end m mb nb + w - 1) / w else 1
theorem sp_end_lt {m : Nat} {mb : Nat → Nat} : ∀ (n : Nat), sp_end m mb n ≤ m := by
  intro n
  induction n with
  | zero => exact Nat.zero_le _
  | succ n ih =>
    unfold sp_end
    split
    · omega
    · exact ih
theorem sp_end_ge {m nb : Nat} {mb : Nat → Nat} (hs : ∀ k j, k < j → j < nb → mb k + 5 ≤ mb j) : ∀ (n : Nat), n ≤ nb → ∀ j, j < n → mb j < m → mb j ≤ sp_end m mb n := by
  intro n
  induction n with
  | zero => intro _ j hj; omega
  | succ n ih =>
    intro hn j hj hjm
    unfold sp_end
    by_cases e : j = n
    · subst e
      rw [if_pos hjm]
      exact Nat.le_refl _
    · split
      · have := hs j n (by omega) (by omega)
        omega
      · exact ih (by omega) j (by omega) hjm
theorem sp_sow_quiet {p m w nb q : Nat} {mb : Nat → Nat} (hs : ∀ k j, k < j → j < nb → mb k + 5 ≤ mb j) (hw : 1 ≤ w) (hq : q ≤ sp_sow m w mb nb - 1) : q * w ≤ m ∧ ∀ r, r < q → w < m - r * w ∧ sp_hit p (m - r * w) w mb nb = none := by
  have he := sp_end_lt (m := m) (mb := mb) nb
  by_cases c : q = 0
  · subst c
    exact ⟨by omega, fun r hr => by omega⟩
  · have h1 : q + 1 ≤ (m - sp_end m mb nb + w - 1) / w := by
      unfold sp_sow at hq
      split at hq <;> omega
    have h2 : (q + 1) * w ≤ m - sp_end m mb nb + w - 1 := (Nat.le_div_iff_mul_le (by omega)).mp h1
    rw [Nat.succ_mul] at h2
    refine ⟨by omega, fun r hr => ?_⟩
    have h3 : (r + 1) * w ≤ q * w := Nat.mul_le_mul_right w (by omega)
    rw [Nat.succ_mul] at h3
    refine ⟨by omega, sp_hit_no (fun j hj hc => ?_)⟩
    have h4 := sp_end_ge (m := m) hs nb (Nat.le_refl _) j hj (by omega)
    omega
theorem zc_sowL {I : Nat → Nat → Int32} {R : Nat → Nat → Option Nat} {F a p sl lo nb nm m w : Nat} {mb ms : Nat → Nat} {sc : Nat → Int32} {bt : Nat → Nat → Int32} (hC : zz_CS I R a (p, sl, lo, nb, nm, mb, ms, sc, bt)) (hR : zz_RW R a) (hn : nb ≤ 10) (hmb : ∀ k, k < nb → mb k ≤ 999) (hm : m ≤ 999) (hw : 1 ≤ w) (hw2 : w ≤ 999) : ∀ (n d i : Nat), i + d = nb → d < n → mi_X5_secondsOnWay_L13 F n I R a (nI m) (nI w) (nI (sp_end m mb i)) (nI i) = some (nI (sp_sow m w mb nb)) := by
  intro n
  induction n with
  | zero => intro d i _ h; omega
  | succ n ih =>
    intro d i hid hdn
    show mi_X5_secondsOnWay_B13 _ F I R _ _ _ _ _ = _
    obtain ⟨⟨h0, -, -, h3, -⟩, -, -, hb⟩ := hC
    unfold mi_X5_secondsOnWay_B13
    rw [h3]
    cases d with
    | zero =>
      have : i = nb := by omega
      subst this
      have he := sp_end_lt (m := m) (mb := mb) i
      have hdl : (m - sp_end m mb i + w - 1) / w ≤ m - sp_end m mb i + w - 1 := Nat.div_le_self _ _
      rw [if_pos (zl_le (Nat.le_refl _) (by omega)), if_pos (show (1 : Int32) ≤ nI w from zl_le (a := 1) hw (by omega)), if_neg (show ¬ nI w = 0 from fun q => by have := (nI_eq (b := 0) (by omega) (by omega)).mp q; omega), zi_sub he, nI_add, show nI (m - sp_end m mb i + w) - 1 = nI (m - sp_end m mb i + w - 1) from pk_sub (b := 1) (by omega), zi_div (by omega) (by omega) (by omega)]
      unfold mc_max sp_sow
      by_cases c : 1 < (m - sp_end m mb i + w - 1) / w
      · rw [if_pos c]
        simp (disch := omega) only [zi_lit, zi_add, zi_mul, zi_le, zi_lt, zi_cl, Nat.not_lt_zero, zn_nle, zn_yle, zn_nlt, zn_ylt, if_false, if_true, or_false, false_or, mz_bn]
      · rw [if_neg c]
        generalize (m - sp_end m mb i + w - 1) / w = z at c hdl ⊢
        rcases (show z = 0 ∨ z = 1 by omega) with rfl | rfl <;> decide
    | succ d =>
      have hi : i < nb := by omega
      have hg := hmb i hi
      rw [if_neg (zl_nle hi (by omega)), zc_bottleAt hR h3 hn hi, mz_ob, mz_oms, (hb i hi).1]
      have hu : sp_end m mb (i + 1) = if mb i < m then mb i else sp_end m mb i := rfl
      have ihh := ih d (i + 1) (by omega) (by omega)
      rw [hu] at ihh
      simp only [mz_bn]
      rw [show nI i + 1 = nI (i + 1) from nI_add i 1]
      by_cases c : mb i < m
      · rw [if_neg (zl_nle c (by omega))]
        rw [if_pos c] at ihh
        exact ihh
      · rw [if_pos (zl_le (by omega) (by omega))]
        rw [if_neg c] at ihh
        exact ihh
theorem zc_sinkL {R : Nat → Nat → Option Nat} {F a p sl lo nb nm x : Nat} {mb ms : Nat → Nat} {sc : Nat → Int32} {bt : Nat → Nat → Int32} (hR : zz_RW R a) (hn : nb ≤ 10) (hm : nm ≤ 12) (hx : ∀ k, k < nm → x ≤ ms k) : ∀ (n d i : Nat) (I : Nat → Nat → Int32), i + d = nm → d < n → zz_CS I R a (p, sl, lo, nb, nm, mb, (fun k => if k < i then ms k - x else ms k), sc, bt) → ∃ I1, mi_X4_sinkAll_L2 F n I (a + 5) (nI x) (nI i) = some I1 ∧ zz_fr a I I1 ∧ zz_CS I1 R a (p, sl, lo, nb, nm, mb, (fun k => if k < nm then ms k - x else ms k), sc, bt) := by
  intro n
  induction n with
  | zero => intro d i I _ h; omega
  | succ n ih =>
    intro d i I hid hdn hC
    show ∃ I1, mi_X4_sinkAll_B2 _ F I _ _ _ = some I1 ∧ _
    unfold mi_X4_sinkAll_B2
    rw [show I (a + 5) 1 = nI nm from hC.1.2.2.2.2.1]
    cases d with
    | zero =>
      have : i = nm := by omega
      subst this
      rw [if_pos (zl_le (Nat.le_refl _) (by omega))]
      exact ⟨I, rfl, zz_fr.rfl, hC⟩
    | succ d =>
      have hi : i < nm := by omega
      have e : I (a + 5 + 1) i = nI (ms i) := by
        have := hC.2.2.1 i hi
        dsimp only at this
        rw [if_neg (Nat.lt_irrefl i)] at this
        exact this
      rw [if_neg (zl_nle hi (by omega)), zc_markAt (by omega), mz_ob, e, zi_sub (hx i hi), zc_put (by omega), mz_ob]
      simp only [mz_bn]
      rw [show nI i + 1 = nI (i + 1) from nI_add i 1]
      have q := zu_ms hC hR hn i (ms i - x)
      have e2 : va_up (fun k => if k < i then ms k - x else ms k) i (ms i - x) = fun k => if k < i + 1 then ms k - x else ms k := by
        funext k
        by_cases hk : k = i
        · subst hk
          rw [va_up_self, if_pos (by omega)]
        · rw [va_up_ne _ _ hk]
          by_cases hk2 : k < i
          · rw [if_pos hk2, if_pos (by omega)]
          · rw [if_neg hk2, if_neg (by omega)]
      rw [e2] at q
      obtain ⟨I1, g1, g2, g3⟩ := ih d (i + 1) _ (by omega) (by omega) q
      exact ⟨I1, g1, (zu_fr (by omega) (by omega)).trans g2, g3⟩
theorem zc_skipL {I : Nat → Nat → Int32} {R : Nat → Nat → Option Nat} {F a p sl lo nb nm most : Nat} {mb ms : Nat → Nat} {sc : Nat → Int32} {bt : Nat → Nat → Int32} (hF : 20 ≤ F) (hC : zz_CS I R a (p, sl, lo, nb, nm, mb, ms, sc, bt)) (hR : zz_RW R a) (hW : zz_WF (p, sl, lo, nb, nm, mb, ms, sc, bt)) (hc : sp_cs sl lo < 6) (hmost : most ≤ 99999) : ∀ (n d i q : Nat), i + d = nm → d < n → q ≤ most → (∀ k, k < i → q ≤ sp_sow (ms k) (sp_w (sp_cs sl lo)) mb nb - 1) → ∃ I1 q1, mi_X5_skipQuietSeconds_L14 F n I R a (nI q) (nI i) = some I1 ∧ q1 ≤ most ∧ (∀ k, k < nm → q1 ≤ sp_sow (ms k) (sp_w (sp_cs sl lo)) mb nb - 1) ∧ zz_fr a I I1 ∧ zz_CS I1 R a (sp_qt q1 (p, sl, lo, nb, nm, mb, ms, sc, bt)) := by
  obtain ⟨⟨w1, w2, w3, w4, w5⟩, x1, x2, x3, x4, x5⟩ := hW
  have hww := sp_w_le (sp_cs sl lo)
  intro n
  induction n with
  | zero => intro d i q _ h; omega
  | succ n ih =>
    intro d i q hid hdn hqm hq
    show ∃ I1 q1, mi_X5_skipQuietSeconds_B14 _ F I R _ _ _ = some I1 ∧ _
    have hC' := hC
    obtain ⟨⟨h0, h1, h2, h3, h4, h5, -⟩, -, hmm, hb⟩ := hC'
    unfold mi_X5_skipQuietSeconds_B14
    rw [h4, zc_step h1 h2 w2 w3]
    cases d with
    | zero =>
      have : i = nm := by omega
      subst this
      rw [if_pos (zl_le (Nat.le_refl _) (by omega)), zi_mul]
      obtain ⟨I1, g1, g2, g3⟩ := zc_sinkL (F := F) (x := q * sp_w (sp_cs sl lo)) (ms := ms) hR w4 w5 (fun k hk => (sp_sow_quiet (p := p) x2 hww.1 (hq k hk)).1) F i 0 I (by omega) (by omega) (by
        have e0 : (fun k => if k < 0 then ms k - q * sp_w (sp_cs sl lo) else ms k) = ms := by
          funext k
          rw [if_neg (by omega)]
        rw [e0]
        exact hC)
      rw [show mi_X4_sinkAll F I (a + 5) (nI (q * sp_w (sp_cs sl lo))) = some I1 from g1, mz_ob]
      simp only [mz_bn]
      rw [g3.1.2.2.2.2.2.1]
      refine ⟨_, q, rfl, hqm, hq, g2.trans (zu_fr (by omega) (by omega)), ?_⟩
      have := zu_s0 g3 hR w4 (sc 0 + nI q)
      unfold sp_qt
      dsimp only
      rw [show sp_ww (sp_cs sl lo) = sp_w (sp_cs sl lo) from if_pos hc]
      exact this
    | succ d =>
      have hi : i < nm := by omega
      have hmi := x3 i hi
      rw [if_neg (zl_nle hi (by omega)), zc_markAt (by omega), mz_ob, show I (a + 5 + 1) i = nI (ms i) from hmm i hi]
      have hsow : mi_X5_secondsOnWay F I R a (nI (ms i)) = some (nI (sp_sow (ms i) (sp_w (sp_cs sl lo)) mb nb)) := by
        unfold mi_X5_secondsOnWay
        simp only [mz_bn]
        rw [zc_step h1 h2 w2 w3]
        exact zc_sowL hC hR w4 x1 (by omega) hww.1 (by omega) F nb 0 (by omega) (by omega)
      rw [hsow, mz_ob]
      have hso : 1 ≤ sp_sow (ms i) (sp_w (sp_cs sl lo)) mb nb ∧ sp_sow (ms i) (sp_w (sp_cs sl lo)) mb nb ≤ 99999 := by
        have hdl : (ms i - sp_end (ms i) mb nb + sp_w (sp_cs sl lo) - 1) / sp_w (sp_cs sl lo) ≤ ms i - sp_end (ms i) mb nb + sp_w (sp_cs sl lo) - 1 := Nat.div_le_self _ _
        unfold sp_sow
        split <;> omega
      simp only [mz_bn]
      rw [show nI i + 1 = nI (i + 1) from nI_add i 1, show nI (sp_sow (ms i) (sp_w (sp_cs sl lo)) mb nb) - 1 = nI (sp_sow (ms i) (sp_w (sp_cs sl lo)) mb nb - 1) from pk_sub (b := 1) hso.1]
      generalize hS : sp_sow (ms i) (sp_w (sp_cs sl lo)) mb nb = S at hso
      have hmin : mc_min (nI q) (nI (S - 1)) = nI (if q < S - 1 then q else S - 1) := by
        unfold mc_min
        by_cases c : q < S - 1
        · rw [if_pos c, if_neg (zl_nlt (by omega) (by omega))]
        · rw [if_neg c]
          by_cases c2 : S - 1 < q
          · rw [if_pos (zl_lt c2 (by omega))]
          · rw [if_neg (zl_nlt (by omega) (by omega)), show q = S - 1 by omega]
      rw [hmin]
      refine ih d (i + 1) _ (by omega) (by omega) (by split <;> omega) (fun k hk => ?_)
      by_cases e : k = i
      · subst e
        rw [hS]
        split <;> omega
      · have := hq k (by omega)
        split <;> omega
theorem zc_skip {I : Nat → Nat → Int32} {R : Nat → Nat → Option Nat} {a : Nat} {A : mz_A} {F most : Nat} (hF : 20 ≤ F) (hC : zz_CS I R a A) (hR : zz_RW R a) (hW : zz_WF A) (hmost : most ≤ 99999) : ∃ I1 q, mi_X5_skipQuietSeconds F I R a (nI most) = some I1 ∧ q ≤ most ∧ zz_fr a I I1 ∧ zz_CS I1 R a (sp_it q A).1 ∧ ∀ u, u ≤ q → sp_it u A = (sp_qt u A, 0) := by
  obtain ⟨p, sl, lo, nb, nm, mb, ms, sc, bt⟩ := A
  have hW' := hW
  obtain ⟨⟨w1, w2, w3, w4, w5⟩, x1, x2, x3, x4, x5⟩ := hW
  have hC' := hC
  obtain ⟨⟨h0, h1, h2, h3, h4, h5, -⟩, -, hmm, hb⟩ := hC'
  unfold mi_X5_skipQuietSeconds
  rw [zc_sticking h1 h2 w2 w3]
  by_cases c : sp_cs sl lo < 6
  · rw [if_pos c, if_pos rfl]
    obtain ⟨I1, q, g1, g2, g3, g4, g5⟩ := zc_skipL hF hC hR hW' c hmost F nm 0 most (by omega) (by omega) (Nat.le_refl _) (fun k hk => by omega)
    have hit : ∀ u, u ≤ q → sp_it u (p, sl, lo, nb, nm, mb, ms, sc, bt) = (sp_qt u (p, sl, lo, nb, nm, mb, ms, sc, bt), 0) := fun u hu => sp_it_quiet u p sl lo nb nm mb ms sc bt (fun _ k hk r hr => (sp_sow_quiet x2 (sp_w_le _).1 (g3 k hk)).2 r (by omega))
    refine ⟨I1, q, g1, g2, g4, ?_, hit⟩
    rw [hit q (Nat.le_refl _)]
    exact g5
  · rw [if_neg c, if_neg (show ¬ (1 : Int32) = 0 by decide)]
    simp only [mz_bn]
    rw [h5]
    have hit : ∀ u, u ≤ most → sp_it u (p, sl, lo, nb, nm, mb, ms, sc, bt) = (sp_qt u (p, sl, lo, nb, nm, mb, ms, sc, bt), 0) := fun u _ => sp_it_quiet u p sl lo nb nm mb ms sc bt (fun q => absurd q c)
    refine ⟨_, most, rfl, Nat.le_refl _, zu_fr (by omega) (by omega), ?_, hit⟩
    · rw [hit most (Nat.le_refl _)]
      have := zu_s0 hC hR w4 (sc 0 + nI most)
      unfold sp_qt
      dsimp only
      rw [show sp_ww (sp_cs sl lo) = 0 from if_neg c]
      have e0 : (fun k => if k < nm then ms k - most * 0 else ms k) = ms := by
        funext k
        rw [Nat.mul_zero, Nat.sub_zero]
        split <;> rfl
      rw [e0]
      exact this


/-! pay -/
theorem va_up_up {α : Type} (f : Nat → α) (k : Nat) (u v : α) : va_up (va_up f k u) k v = va_up f k v := by
  funext j
  by_cases h : j = k
  · subst h
    rw [va_up_self, va_up_self]
  · rw [va_up_ne _ _ h, va_up_ne _ _ h, va_up_ne _ _ h]
theorem zn_abs (x : Int32) : mc_abs x = mi_X9_size x := by
  unfold mc_abs mi_X9_size
  rw [Int32.zero_sub]
theorem zn_m1 (i : Nat) : nI (i + 1) + (-1) = nI (i + 1 - 1) := zi_pre (by omega)
theorem zn_subm (x : Int32) : x - 1 = x + (-1) := by
  rw [Int32.sub_eq_add_neg]
theorem zn_m10 : nI 0 + (-1) < 0 := by decide
def sp_up (q : Nat) (mb : Nat → Nat) (bt : Nat → Nat → Int32) : Nat → Nat → Option Nat
  | 0, _ => none
  | d + 1, i => if bt i 1 = 0 ∧ mb i < q then some i else sp_up q mb bt d (i + 1)
theorem sp_up_lt {q : Nat} {mb : Nat → Nat} {bt : Nat → Nat → Int32} : ∀ (d i k : Nat), sp_up q mb bt d i = some k → i ≤ k ∧ k < i + d ∧ bt k 1 = 0 ∧ mb k < q := by
  intro d
  induction d with
  | zero => intro i k h; exact absurd h (by simp [sp_up])
  | succ d ih =>
    intro i k h
    unfold sp_up at h
    by_cases hc : bt i 1 = 0 ∧ mb i < q
    · rw [if_pos hc] at h
      cases h
      exact ⟨Nat.le_refl _, by omega, hc⟩
    · rw [if_neg hc] at h
      have := ih _ _ h
      exact ⟨by omega, by omega, this.2.2⟩
def sp_jk (q c : Nat) (sc : Nat → Int32) (mb : Nat → Nat) (bt : Nat → Nat → Int32) : Option Nat → Nat → Nat → Int32
  | none => bt
  | some k => va_up bt k (va_up (sp_sb q c sc (mb k) (bt k)) 4 1)
theorem sp_sb_sc {p c : Nat} {sc sd : Nat → Int32} {g : Nat} {t : Nat → Int32} (h : ∀ q, q ≠ 10 → sc q = sd q) : sp_sb p c sc g t = sp_sb p c sd g t := by
  funext j
  unfold sp_sb
  rw [h 0 (by omega), h (13 + 2 * sp_lay (sp_dep (p - g) c)) (by omega), h (14 + 2 * sp_lay (sp_dep (p - g) c)) (by omega)]
theorem zz_cb.s4 {f : Nat → Int32} {g : Nat} {t : Nat → Int32} (h : zz_cb f g t) (v : Int32) : zz_cb (va_up f 4 v) g (va_up t 4 v) := by
  obtain ⟨g0, g1, g2, g3, g4, g5⟩ := h
  have e : ∀ (f : Nat → Int32) k, k ≠ 4 → va_up f 4 v k = f k := fun f k hk => va_up_ne _ _ hk
  refine ⟨?_, ?_, ?_, ?_, ?_, fun h1 => ?_⟩
  · rw [e _ _ (by omega)]; exact g0
  · rw [e _ _ (by omega), e _ _ (by omega)]; exact g1
  · rw [e _ _ (by omega), e _ _ (by omega)]; exact g2
  · rw [e _ _ (by omega), e _ _ (by omega)]; exact g3
  · rw [va_up_self, va_up_self]
  · rw [e _ _ (by omega)] at h1
    rw [e f 5 (by omega), e f 6 (by omega), e f 7 (by omega), e f 8 (by omega), e f 9 (by omega), e f 10 (by omega), e t 5 (by omega), e t 9 (by omega), e t 10 (by omega), e t 6 (by omega), e t 7 (by omega), e t 8 (by omega)]
    exact g5 h1
theorem mz_up {α : Type} (I : Nat → Nat → α) (a k : Nat) (v : α) : mc_u I a k v a = va_up (I a) k v := by
  unfold mc_u
  rw [va_up_self]
theorem zc_jerkL {I : Nat → Nat → Int32} {R : Nat → Nat → Option Nat} {F a p sl lo nb nm : Nat} {mb ms : Nat → Nat} {sc : Nat → Int32} {bt : Nat → Nat → Int32} (hC : zz_CS I R a (p, sl, lo, nb, nm, mb, ms, sc, bt)) (hR : zz_RW R a) (hp : p ≤ 999) (hs : sl ≤ 6) (hl : lo ≤ 1) (hn : nb ≤ 10) (hmb : ∀ k, k < nb → mb k ≤ 999) : ∀ (n d i : Nat), i + d = nb → d < n → ∃ I1, mi_X5_jerk_L2 F n I R a (nI i) = some I1 ∧ zz_fr a I I1 ∧ zz_CS I1 R a (p, sl, lo, nb, nm, mb, ms, sc, sp_jk p (sp_cs sl lo) sc mb bt (sp_up p mb bt d i)) := by
  intro n
  induction n with
  | zero => intro d i _ h; omega
  | succ n ih =>
    intro d i hid hdn
    show ∃ I1, mi_X5_jerk_B2 _ F I R _ _ = some I1 ∧ _
    have hC' := hC
    obtain ⟨⟨h0, h1, h2, h3, -⟩, -, -, hb⟩ := hC'
    unfold mi_X5_jerk_B2
    rw [h3]
    cases d with
    | zero =>
      simp (disch := omega) only [zi_lit, zi_add, zi_mul, zi_le, zi_lt, zi_cl, Nat.not_lt_zero, zn_nle, zn_yle, zn_nlt, zn_ylt, if_false, if_true, or_false, false_or, mz_bn]
      exact ⟨I, rfl, zz_fr.rfl, hC⟩
    | succ d =>
      have hi : i < nb := by omega
      rw [zc_bottleAt hR h3 hn hi]
      simp (disch := omega) only [zi_lit, zi_add, zi_mul, zi_le, zi_lt, zi_cl, Nat.not_lt_zero, zn_nle, zn_yle, zn_nlt, zn_ylt, if_false, if_true, or_false, false_or, mz_bn, mz_ob, mz_oms]
      obtain ⟨g0, g1, g2, g3, g4, -⟩ := hb i hi
      have hg := hmb i hi
      rw [g3, g0, zc_inw h0 hp hg]
      unfold sp_up
      by_cases c1 : bt i 1 = 0
      · rw [if_pos (show bt i 1 = nI 0 from c1)]
        by_cases c2 : mb i < p
        · rw [if_neg (show ¬ p ≤ mb i by omega), if_neg (show ¬ (1 : Int32) = nI 0 by decide), if_pos (show bt i 1 = 0 ∧ mb i < p from ⟨c1, c2⟩)]
          obtain ⟨I1, e1, e2, e3, e4⟩ := zc_shutS hC hR hp hs hl hn hi c2
          rw [e1, mz_ob]
          have hcb := (e4.2.2.2 i hi)
          rw [va_up_self] at hcb
          have := zu_b (I1 := mc_u I1 (zz_bp R a i) 4 1) (t := va_up (sp_sb p (sp_cs sl lo) sc (mb i) (bt i)) 4 1) e4 hR hn hi (fun x hx => mz_ux _ hx) (by rw [mz_up]; exact hcb.s4 1)
          rw [va_up_up] at this
          exact ⟨_, rfl, e2.trans this.2, this.1⟩
        · rw [if_pos (show p ≤ mb i by omega), if_pos (show (0 : Int32) = nI 0 from rfl), if_neg (show ¬ (bt i 1 = 0 ∧ mb i < p) from fun q => c2 q.2)]
          exact ih d (i + 1) (by omega) (by omega)
      · rw [if_neg (show ¬ bt i 1 = nI 0 from c1), if_neg (show ¬ (bt i 1 = 0 ∧ mb i < p) from fun q => c1 q.1)]
        exact ih d (i + 1) (by omega) (by omega)
def sp_cut (q : Nat) (ms : Nat → Nat) : Nat → Nat
  | 0 => 0
  | n + 1 => if ms n ≤ q then n + 1 else sp_cut q ms n
theorem sp_cut_le (q : Nat) (ms : Nat → Nat) : ∀ n, sp_cut q ms n ≤ n := by
  intro n
  induction n with
  | zero => exact Nat.le_refl _
  | succ n ih =>
    unfold sp_cut
    split <;> omega
theorem sp_cut_last (q : Nat) (ms : Nat → Nat) : ∀ n, 0 < sp_cut q ms n → ms (sp_cut q ms n - 1) ≤ q := by
  intro n
  induction n with
  | zero => intro h; exact absurd h (by simp [sp_cut])
  | succ n ih =>
    intro h
    unfold sp_cut at h ⊢
    by_cases c : ms n ≤ q
    · rw [if_pos c]
      exact c
    · rw [if_neg c] at h ⊢
      exact ih h
theorem zc_tbL {I : Nat → Nat → Int32} {R : Nat → Nat → Option Nat} {F a p sl lo nb nm q : Nat} {mb ms : Nat → Nat} {sc : Nat → Int32} {bt : Nat → Nat → Int32} (hR : zz_RW R a) (hn : nb ≤ 10) (hm : nm ≤ 12) (hq : q ≤ 999) (hms : ∀ k, k < nm → ms k ≤ 999) : ∀ (n i : Nat) (I : Nat → Nat → Int32), i ≤ nm → i < n → zz_CS I R a (p, sl, lo, nb, i, mb, ms, sc, bt) → ∃ I1, mi_X4_takeBackAbove_L9 F n I (a + 5) (nI q) (nI nm) (nI i + (-1)) = some (I1, nI (nm - sp_cut q ms i)) ∧ zz_fr a I I1 ∧ zz_CS I1 R a (p, sl, lo, nb, sp_cut q ms i, mb, ms, va_up sc 10 (sc 10 + nI (nm - sp_cut q ms i)), bt) := by
  intro n
  induction n with
  | zero => intro i I _ h; omega
  | succ n ih =>
    intro i I hi hin hC
    show ∃ I1, mi_X4_takeBackAbove_B9 _ F I _ _ _ _ = some (I1, _) ∧ _
    have last : ∃ I1, mi_X4_takeBackAbove_J33 F I (a + 5) (nI nm) = some (I1, nI (nm - i)) ∧ zz_fr a I I1 ∧ zz_CS I1 R a (p, sl, lo, nb, i, mb, ms, va_up sc 10 (sc 10 + nI (nm - i)), bt) := by
      have hC' := hC
      obtain ⟨⟨h0, h1, h2, h3, h4, h5, h6, h7, h8, h9, h10, h11, h12⟩, -⟩ := hC'
      unfold mi_X4_takeBackAbove_J33
      rw [h12, h4, zi_sub hi]
      simp only [mz_bn]
      have := zu_s10 hC hR hn (sc 10 + nI (nm - i))
      rw [show mc_u I (a + 5) 6 (sc 10 + nI (nm - i)) (a + 5) 1 = nI i from this.1.2.2.2.2.1, zi_sub hi]
      exact ⟨_, rfl, zu_fr (by omega) (by omega), this⟩
    unfold mi_X4_takeBackAbove_B9
    cases i with
    | zero =>
      rw [if_pos zn_m10]
      exact last
    | succ i =>
      rw [zn_m1, Nat.add_sub_cancel, if_neg (show ¬ nI i < 0 from zl_nlt (b := 0) (by omega) (by omega)), zc_markAt (by omega), mz_ob]
      rw [show I (a + 5 + 1) i = nI (ms i) from hC.2.2.1 i (by omega)]
      have hms' := hms i (by omega)
      unfold sp_cut
      by_cases c : ms i ≤ q
      · rw [if_pos (zl_le c (by omega)), if_pos c]
        exact last
      · rw [if_neg (zl_nle (by omega) (by omega)), if_neg c]
        simp only [mz_bn]
        have hC2 := zu_nm hC hR hn (v := i) (fun k hk => by omega)
        obtain ⟨I1, e1, e2, e3⟩ := ih i _ (by omega) (by omega) hC2
        exact ⟨I1, e1, (zu_fr (by omega) (by omega)).trans e2, e3⟩
def sq_pay (x : Int32) : mz_A → mz_A × Int32
  | (p, sl, lo, nb, nm, mb, ms, sc, bt) => if x = 0 ∨ x < -999 ∨ 999 < x then ((p, sl, lo, nb, nm, mb, ms, sc, bt), -1002) else if nI p + x < 0 then ((p, sl, lo, nb, nm, mb, ms, sc, bt), -1004) else if 999 < nI p + x then ((p, sl, lo, nb, nm, mb, ms, sc, bt), -1003) else (((nI p + x).toNatClampNeg, sl, lo, nb, sp_cut (nI p + x).toNatClampNeg ms nm, mb, ms, va_up sc 10 (sc 10 + nI (nm - sp_cut (nI p + x).toNatClampNeg ms nm)), if mi_X9_size x ≤ sc 12 then bt else sp_jk (nI p + x).toNatClampNeg (sp_cs sl lo) sc mb bt (sp_up (nI p + x).toNatClampNeg mb bt nb 0)), nI (nm - sp_cut (nI p + x).toNatClampNeg ms nm))
theorem sp_jk_flags {q c : Nat} {sc : Nat → Int32} {mb : Nat → Nat} {bt : Nat → Nat → Int32} {o : Option Nat} {k : Nat} (h : (bt k 1 = 0 ∨ bt k 1 = 1) ∧ (bt k 2 = 0 ∨ bt k 2 = 1) ∧ (bt k 4 = 0 ∨ bt k 4 = 1)) : (sp_jk q c sc mb bt o k 1 = 0 ∨ sp_jk q c sc mb bt o k 1 = 1) ∧ (sp_jk q c sc mb bt o k 2 = 0 ∨ sp_jk q c sc mb bt o k 2 = 1) ∧ (sp_jk q c sc mb bt o k 4 = 0 ∨ sp_jk q c sc mb bt o k 4 = 1) := by
  cases o with
  | none => exact h
  | some j =>
    unfold sp_jk
    by_cases hkj : k = j
    · subst hkj
      dsimp only
      rw [va_up_self, va_up_self, va_up_ne _ _ (by omega), va_up_ne _ _ (by omega)]
      exact ⟨Or.inr rfl, h.2.1, Or.inr rfl⟩
    · dsimp only
      rw [va_up_ne _ _ hkj]
      exact h
theorem zw_pay {A : mz_A} (x : Int32) (hW : zz_WF A) : zz_WF (sq_pay x A).1 := by
  obtain ⟨p, sl, lo, nb, nm, mb, ms, sc, bt⟩ := A
  have hW' := hW
  obtain ⟨⟨w1, w2, w3, w4, w5⟩, x1, x2, x3, x4, x5⟩ := hW
  unfold sq_pay
  dsimp only
  split
  · exact hW'
  · split
    · exact hW'
    · split
      · exact hW'
      · next g1 g2 =>
        have hq : (nI p + x).toNatClampNeg ≤ 999 := by
          rcases zn_ix (nI p + x) (n := 999) (by omega) with h | h | ⟨j, hj, e⟩
          · exact absurd h g1
          · exact absurd h g2
          · rw [e, zi_cl (by omega)]
            exact hj
        generalize (nI p + x).toNatClampNeg = q at hq
        have hcl := sp_cut_le q ms nm
        refine ⟨⟨hq, w2, w3, w4, by omega⟩, x1, x2, fun k hk => ⟨(x3 k (by omega)).1, ?_⟩, fun k j hkj hj => x4 k j hkj (by omega), fun k hk => ?_⟩
        · have h1 := sp_cut_last q ms nm (by omega)
          have h2 := x4 k (sp_cut q ms nm - 1) (by omega) (by omega)
          omega
        · split
          · exact x5 k hk
          · exact sp_jk_flags (x5 k hk)
theorem zc_pay {I : Nat → Nat → Int32} {R : Nat → Nat → Option Nat} {a : Nat} {A : mz_A} {F : Nat} (hF : 20 ≤ F) (x : Int32) (hC : zz_CS I R a A) (hR : zz_RW R a) (hW : zz_WF A) : ∃ I1, mi_X5_payOut F I R a x = some (I1, (sq_pay x A).2) ∧ zz_fr a I I1 ∧ zz_CS I1 R a (sq_pay x A).1 := by
  obtain ⟨p, sl, lo, nb, nm, mb, ms, sc, bt⟩ := A
  obtain ⟨⟨w1, w2, w3, w4, w5⟩, x1, x2, x3, x4, x5⟩ := hW
  have hC' := hC
  obtain ⟨⟨h0, h1, h2, h3, h4, h5, h6, h7, h8, -⟩, -⟩ := hC
  unfold mi_X5_payOut
  by_cases c1 : x = 0 ∨ x < -999 ∨ 999 < x
  · have e : sq_pay x (p, sl, lo, nb, nm, mb, ms, sc, bt) = ((p, sl, lo, nb, nm, mb, ms, sc, bt), -1002) := by
      unfold sq_pay
      dsimp only
      rw [if_pos c1]
    rw [e]
    refine ⟨I, ?_, zz_fr.rfl, hC'⟩
    by_cases v1 : x < -999
    · rw [if_pos v1]
    · rw [if_neg v1]
      by_cases v2 : 999 < x
      · rw [if_pos v2]
      · rw [if_neg v2, if_pos ((c1.resolve_right (fun q => q.elim v1 v2)))]
  · rw [if_neg (fun q => c1 (Or.inr (Or.inl q))), if_neg (fun q => c1 (Or.inr (Or.inr q))), if_neg (fun q => c1 (Or.inl q)), h0]
    simp only [mz_bn]
    rcases zn_ix (nI p + x) (n := 999) (by omega) with h | h | ⟨q, hq, e⟩
    · have e : sq_pay x (p, sl, lo, nb, nm, mb, ms, sc, bt) = ((p, sl, lo, nb, nm, mb, ms, sc, bt), -1004) := by
        unfold sq_pay
        dsimp only
        rw [if_neg c1, if_pos h]
      rw [e, if_neg (zn_nle32 h)]
      exact ⟨I, rfl, zz_fr.rfl, hC'⟩
    · have e : sq_pay x (p, sl, lo, nb, nm, mb, ms, sc, bt) = ((p, sl, lo, nb, nm, mb, ms, sc, bt), -1003) := by
        unfold sq_pay
        dsimp only
        rw [if_neg c1, if_neg (zn_hi0 h (by omega)), if_pos (show (999 : Int32) < nI p + x from h)]
      rw [e, if_pos (zn_le32 (zn_hi0 h (by omega))), if_neg (zn_nle32 (show (999 : Int32) < nI p + x from h))]
      exact ⟨I, rfl, zz_fr.rfl, hC'⟩
    · have es : sq_pay x (p, sl, lo, nb, nm, mb, ms, sc, bt) = ((q, sl, lo, nb, sp_cut q ms nm, mb, ms, va_up sc 10 (sc 10 + nI (nm - sp_cut q ms nm)), if mi_X9_size x ≤ sc 12 then bt else sp_jk q (sp_cs sl lo) sc mb bt (sp_up q mb bt nb 0)), nI (nm - sp_cut q ms nm)) := by
        unfold sq_pay
        dsimp only
        rw [e, if_neg c1, if_neg (show ¬ nI q < 0 from zl_nlt (b := 0) (by omega) (by omega)), if_neg (show ¬ (999 : Int32) < nI q from zl_nlt (a := 999) hq (by omega)), zi_cl (by omega)]
      rw [es, e, if_pos (show (0 : Int32) ≤ nI q from zl_le (a := 0) (by omega) (by omega)), if_pos (show nI q ≤ 999 from zl_le (b := 999) hq (by omega))]
      have hC1 := zu_p hC' hR w4 q
      generalize hI7 : mc_u I (a + 1) 0 (nI q) = I7 at hC1
      have f7 : zz_fr a I I7 := by rw [← hI7]; exact zu_fr (by omega) (by omega)
      rw [show I7 a 7 = sc 12 from hC1.1.2.2.2.2.2.2.2.1, zn_abs]
      by_cases cj : mi_X9_size x ≤ sc 12
      · rw [if_pos cj, if_pos cj]
        obtain ⟨I1, e1, e2, e3⟩ := zc_tbL (F := F) (I := I) (q := q) hR w4 w5 hq (fun k hk => by have := x3 k hk; omega) F nm I7 (Nat.le_refl _) (by omega) hC1
        have : mi_X4_takeBackAbove F I7 (a + 5) (nI q) = some (I1, nI (nm - sp_cut q ms nm)) := by
          unfold mi_X4_takeBackAbove
          simp only [mz_bn]
          rw [show I7 (a + 5) 1 = nI nm from hC1.1.2.2.2.2.1, zn_subm]
          exact e1
        rw [this, mz_ob2]
        exact ⟨I1, rfl, f7.trans e2, e3⟩
      · rw [if_neg cj, if_neg cj]
        obtain ⟨I2, d1, d2, d3⟩ := zc_jerkL (F := F) hC1 hR hq w2 w3 w4 x1 F nb 0 (by omega) (by omega)
        rw [show mi_X5_jerk F I7 R a = some I2 from d1, mz_ob]
        obtain ⟨I1, e1, e2, e3⟩ := zc_tbL (F := F) (I := I) (q := q) hR w4 w5 hq (fun k hk => by have := x3 k hk; omega) F nm I2 (Nat.le_refl _) (by omega) d3
        have : mi_X4_takeBackAbove F I2 (a + 5) (nI q) = some (I1, nI (nm - sp_cut q ms nm)) := by
          unfold mi_X4_takeBackAbove
          simp only [mz_bn]
          rw [show I2 (a + 5) 1 = nI nm from d3.1.2.2.2.2.1, zn_subm]
          exact e1
        rw [this, mz_ob2]
        exact ⟨I1, rfl, (f7.trans d2).trans e2, e3⟩

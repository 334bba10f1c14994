/-! pass -/
def sp_ct (bt : Nat → Nat → Int32) : Nat → Nat
  | 0 => 0
  | n + 1 => sp_ct bt n + (if bt n 1 = 0 then 0 else 1)
theorem sp_ct_ge {bt : Nat → Nat → Int32} {k : Nat} {t : Nat → Int32} : ∀ n, n ≤ k → sp_ct (va_up bt k t) n = sp_ct bt n := by
  intro n
  induction n with
  | zero => intro _; rfl
  | succ n ih =>
    intro h
    unfold sp_ct
    rw [ih (by omega), va_up_ne _ _ (by omega)]
theorem sp_ct_up {bt : Nat → Nat → Int32} {k : Nat} {t : Nat → Int32} : ∀ n, k < n → sp_ct (va_up bt k t) n + (if bt k 1 = 0 then 0 else 1) = sp_ct bt n + (if t 1 = 0 then 0 else 1) := by
  intro n
  induction n with
  | zero => intro h; omega
  | succ n ih =>
    intro h
    unfold sp_ct
    by_cases e : k = n
    · subst e
      rw [sp_ct_ge _ (Nat.le_refl _), va_up_self]
      omega
    · have := ih (by omega)
      rw [va_up_ne _ _ (by omega)]
      omega
theorem sp_ct_le {bt : Nat → Nat → Int32} : ∀ n, sp_ct bt n ≤ n := by
  intro n
  induction n with
  | zero => exact Nat.le_refl _
  | succ n ih =>
    unfold sp_ct
    split <;> omega
theorem sp_sk_1 {p c : Nat} {sc : Nat → Int32} {g : Nat} {t : Nat → Int32} : ¬ sp_sk p c sc g t 1 = 0 := by
  unfold sp_sk
  by_cases c1 : t 1 = 0
  · rw [if_pos c1]
    by_cases c2 : t 2 = 0
    · rw [if_pos c2]
      exact (by decide : ¬ (1 : Int32) = 0)
    · rw [if_neg c2, va_up_ne _ _ (by omega)]
      exact (by decide : ¬ (1 : Int32) = 0)
  · rw [if_neg c1, va_up_ne _ _ (by omega)]
    exact c1
theorem sp_one_ct {p c w nb m : Nat} {mb : Nat → Nat} {l sh : Nat} {ms : Nat → Nat} {sc : Nat → Int32} {bt : Nat → Nat → Int32} : sp_ct (sp_one p c w nb mb m (l, ms, sc, bt, sh)).2.2.2.1 nb + sh = sp_ct bt nb + (sp_one p c w nb mb m (l, ms, sc, bt, sh)).2.2.2.2 := by
  unfold sp_one
  dsimp only
  cases hh : sp_hit p m w mb nb with
  | none =>
    dsimp only
    split <;> rfl
  | some k =>
    dsimp only
    have hk := (sp_hit_some hh).1
    have := sp_ct_up (bt := bt) (t := sp_sk p c sc (mb k) (bt k)) nb hk
    rw [if_neg (sp_sk_1 (p := p) (c := c) (sc := sc) (g := mb k) (t := bt k))] at this
    by_cases c1 : bt k 1 = 0
    · rw [if_pos c1] at this
      by_cases c2 : bt k 2 = 0
      · rw [if_neg (fun q => q.2 c2)]
        dsimp only
        rw [if_pos c1]
        omega
      · rw [if_pos ⟨c1, c2⟩]
        dsimp only
        omega
    · rw [if_neg c1] at this
      rw [if_neg (fun q => c1 q.1)]
      dsimp only
      rw [if_neg c1]
      omega
theorem sp_lp_ct {p c w nb : Nat} {mb : Nat → Nat} : ∀ (d i : Nat) (S : mz_S), sp_ct (sp_lp p c w nb mb d i S).2.2.2.1 nb + S.2.2.2.2 = sp_ct S.2.2.2.1 nb + (sp_lp p c w nb mb d i S).2.2.2.2 := by
  intro d
  induction d with
  | zero => intro i S; rfl
  | succ d ih =>
    intro i S
    obtain ⟨l, ms, sc, bt, sh⟩ := S
    have h1 := ih (i + 1) (sp_one p c w nb mb (ms i) (l, ms, sc, bt, sh))
    have h2 := sp_one_ct (p := p) (c := c) (w := w) (nb := nb) (m := ms i) (mb := mb) (l := l) (sh := sh) (ms := ms) (sc := sc) (bt := bt)
    have h3 : (sp_lp p c w nb mb (d + 1) i (l, ms, sc, bt, sh)) = sp_lp p c w nb mb d (i + 1) (sp_one p c w nb mb (ms i) (l, ms, sc, bt, sh)) := rfl
    rw [h3]
    dsimp only
    omega
theorem sp_one_sc {p c w nb m q : Nat} {mb : Nat → Nat} {l sh : Nat} {ms : Nat → Nat} {sc : Nat → Int32} {bt : Nat → Nat → Int32} (h7 : q ≠ 7) (h8 : q ≠ 8) (h9 : q ≠ 9) : (sp_one p c w nb mb m (l, ms, sc, bt, sh)).2.2.1 q = sc q := by
  unfold sp_one
  dsimp only
  cases hh : sp_hit p m w mb nb with
  | none =>
    dsimp only
    split
    · rfl
    · exact va_up_ne _ _ h9
  | some k =>
    dsimp only
    split
    · dsimp only
      rw [va_up_ne _ _ h7, va_up_ne _ _ h8]
    · exact va_up_ne _ _ h8
theorem sp_lp_sc {p c w nb q : Nat} {mb : Nat → Nat} (h7 : q ≠ 7) (h8 : q ≠ 8) (h9 : q ≠ 9) : ∀ (d i : Nat) (S : mz_S), (sp_lp p c w nb mb d i S).2.2.1 q = S.2.2.1 q := by
  intro d
  induction d with
  | zero => intro i S; rfl
  | succ d ih =>
    intro i S
    obtain ⟨l, ms, sc, bt, sh⟩ := S
    exact (ih (i + 1) (sp_one p c w nb mb (ms i) (l, ms, sc, bt, sh))).trans (sp_one_sc h7 h8 h9)
def mz_ct (A : mz_A) : Nat := sp_ct A.2.2.2.2.2.2.2.2 A.2.2.2.1
def mz_s0 (A : mz_A) : Int32 := A.2.2.2.2.2.2.2.1 0
theorem mz_ct_sec (A : mz_A) : mz_ct (sq_sec A).1 = mz_ct A + (sq_sec A).2 := by
  obtain ⟨p, sl, lo, nb, nm, mb, ms, sc, bt⟩ := A
  unfold sq_sec mz_ct
  dsimp only
  by_cases c : sp_cs sl lo < 6
  · rw [if_pos c]
    exact sp_lp_ct nm 0 (0, ms, va_up sc 0 (sc 0 + nI 1), bt, 0)
  · rw [if_neg c]
    rfl
theorem mz_s0_sec (A : mz_A) : mz_s0 (sq_sec A).1 = mz_s0 A + nI 1 := by
  obtain ⟨p, sl, lo, nb, nm, mb, ms, sc, bt⟩ := A
  unfold sq_sec mz_s0
  dsimp only
  by_cases c : sp_cs sl lo < 6
  · rw [if_pos c]
    exact (sp_lp_sc (by omega) (by omega) (by omega) nm 0 _).trans (va_up_self sc 0 (sc 0 + nI 1))
  · rw [if_neg c]
    exact va_up_self sc 0 (sc 0 + nI 1)
theorem mz_ct_it : ∀ (n : Nat) (A : mz_A), mz_ct (sp_it n A).1 = mz_ct A + (sp_it n A).2 := by
  intro n
  induction n with
  | zero => intro A; rfl
  | succ n ih =>
    intro A
    have h1 := ih (sq_sec A).1
    have h2 := mz_ct_sec A
    show mz_ct (sp_it n (sq_sec A).1).1 = mz_ct A + ((sq_sec A).2 + (sp_it n (sq_sec A).1).2)
    omega
theorem mz_s0_it : ∀ (n : Nat) (A : mz_A), mz_s0 (sp_it n A).1 = mz_s0 A + nI n := by
  intro n
  induction n with
  | zero => intro A; exact (Int32.add_zero _).symm
  | succ n ih =>
    intro A
    show mz_s0 (sp_it n (sq_sec A).1).1 = _
    rw [ih, mz_s0_sec, Int32.add_assoc, nI_add, Nat.add_comm 1 n]
theorem zc_ctL {I : Nat → Nat → Int32} {R : Nat → Nat → Option Nat} {F a p sl lo nb nm : Nat} {mb ms : Nat → Nat} {sc : Nat → Int32} {bt : Nat → Nat → Int32} (hC : zz_CS I R a (p, sl, lo, nb, nm, mb, ms, sc, bt)) (hR : zz_RW R a) (hn : nb ≤ 10) : ∀ (n d i : Nat), i + d = nb → d < n → mi_X5_shutBottles_L4 F n I R a (nI (sp_ct bt i)) (nI i) = some (nI (sp_ct bt nb)) := by
  intro n
  induction n with
  | zero => intro d i _ h; omega
  | succ n ih =>
    intro d i hid hdn
    show mi_X5_shutBottles_B4 _ F I R _ _ _ = _
    obtain ⟨⟨h0, -, -, h3, -⟩, -, -, hb⟩ := hC
    unfold mi_X5_shutBottles_B4
    rw [h3]
    cases d with
    | zero =>
      have : i = nb := by omega
      subst this
      rw [if_pos (zl_le (Nat.le_refl _) (by omega))]
    | succ d =>
      have hi : i < nb := by omega
      rw [if_neg (zl_nle hi (by omega)), zc_bottleAt hR h3 hn hi, mz_ob, mz_oms, (hb i hi).2.2.2.1]
      have ihh := ih d (i + 1) (by omega) (by omega)
      have hu : sp_ct bt (i + 1) = sp_ct bt i + (if bt i 1 = 0 then 0 else 1) := rfl
      rw [hu] at ihh
      simp only [mz_bn]
      rw [show nI i + 1 = nI (i + 1) from nI_add i 1]
      by_cases c : bt i 1 = 0
      · rw [if_pos c]
        rw [if_pos c] at ihh
        exact ihh
      · rw [if_neg c, show nI (sp_ct bt i) + 1 = nI (sp_ct bt i + 1) from nI_add _ 1]
        rw [if_neg c] at ihh
        exact ihh
theorem zc_shutBottles {I : Nat → Nat → Int32} {R : Nat → Nat → Option Nat} {a : Nat} {A : mz_A} {F : Nat} (hF : 20 ≤ F) (hC : zz_CS I R a A) (hR : zz_RW R a) (hW : zz_WF A) : mi_X5_shutBottles F I R a = some (nI (mz_ct A)) := by
  obtain ⟨p, sl, lo, nb, nm, mb, ms, sc, bt⟩ := A
  obtain ⟨⟨w1, w2, w3, w4, w5⟩, -⟩ := hW
  exact zc_ctL hC hR w4 F nb 0 (by omega) (by omega)
theorem zc_s0 {I : Nat → Nat → Int32} {R : Nat → Nat → Option Nat} {a : Nat} {A : mz_A} (hC : zz_CS I R a A) : I a 5 = mz_s0 A := by
  obtain ⟨p, sl, lo, nb, nm, mb, ms, sc, bt⟩ := A
  exact hC.1.2.2.2.2.2.1
def sq_pass (x : Int32) (A : mz_A) : mz_A × Int32 := if x < 1 ∨ 999 < x then (A, -1002) else if mz_s0 A + x ≤ 99999 then ((sp_it x.toNatClampNeg A).1, nI (sp_it x.toNatClampNeg A).2) else (A, -1003)
theorem zw_pass {A : mz_A} (x : Int32) (hW : zz_WF A) : zz_WF (sq_pass x A).1 := by
  unfold sq_pass
  split
  · exact hW
  · split
    · exact zw_it _ _ hW
    · exact hW
theorem zc_passL {I0 : Nat → Nat → Int32} {R : Nat → Nat → Option Nat} {F a s m : Nat} {A : mz_A} (hF : 20 ≤ F) (hR : zz_RW R a) (hW : zz_WF A) (hs : mz_s0 A = nI s) (hsm : s + m ≤ 99999) (hm : m ≤ 999) : ∀ (n t i : Nat) (I : Nat → Nat → Int32), t ≤ m → i ≤ t → m - t < n → zz_fr a I0 I → zz_CS I R a (sp_it t A).1 → ∃ I1, mi_X5_letPass_L46 F n I R a (nI m) (nI (mz_ct A)) (nI (s + m)) (nI i) = some (I1, nI (sp_it m A).2) ∧ zz_fr a I0 I1 ∧ zz_CS I1 R a (sp_it m A).1 := by
  intro n
  induction n with
  | zero => intro t i I _ _ h; omega
  | succ n ih =>
    intro t i I htm hit hmn hf hC
    show ∃ I1, mi_X5_letPass_B46 _ F I R _ _ _ _ _ = _ ∧ _
    have hWt := zw_it t A hW
    have h5 : I a 5 = nI (s + t) := by rw [zc_s0 hC, mz_s0_it, hs, nI_add]
    have hend : t = m → ∃ I1, (mc_ob (mi_X5_shutBottles F I R a) fun r8 => some (I, (r8 - nI (mz_ct A)))) = some (I1, nI (sp_it m A).2) ∧ zz_fr a I0 I1 ∧ zz_CS I1 R a (sp_it m A).1 := by
      intro e
      subst e
      have hct := mz_ct_it t A
      rw [zc_shutBottles hF hC hR hWt, mz_ob, zi_sub (by omega), hct, show mz_ct A + (sp_it t A).2 - mz_ct A = (sp_it t A).2 by omega]
      exact ⟨I, rfl, hf, hC⟩
    unfold mi_X5_letPass_B46
    by_cases c1 : m ≤ i
    · rw [if_pos (zl_le c1 (by omega))]
      exact hend (by omega)
    · rw [if_neg (zl_nle (by omega) (by omega)), h5]
      by_cases c2 : s + m ≤ s + t
      · rw [if_pos (zl_le c2 (by omega))]
        exact hend (by omega)
      · rw [if_neg (zl_nle (by omega) (by omega)), zi_sub (by omega), show s + m - (s + t) = m - t by omega, show nI (m - t) - 1 = nI (m - t - 1) from pk_sub (b := 1) (by omega)]
        obtain ⟨I2, q, e1, e2, e3, e4, e5⟩ := zc_skip (F := F) (most := m - t - 1) hF hC hR hWt (by omega)
        rw [e1, mz_ob]
        obtain ⟨I3, f1, f2, f3⟩ := zc_sec hF e4 hR (zw_it q _ hWt)
        rw [f1, mz_ob]
        simp only [mz_bn]
        rw [show nI i + 1 = nI (i + 1) from nI_add i 1]
        have hst : (sp_it (t + q + 1) A).1 = (sq_sec (sp_it q (sp_it t A).1).1).1 := by
          rw [sp_it_add (t + q) 1 A, sp_it_one, sp_it_add t q A]
        exact ih (t + q + 1) (i + 1) I3 (by omega) (by omega) (by omega) ((hf.trans e3).trans f2) (by rw [hst]; exact f3)
theorem zc_pass {I : Nat → Nat → Int32} {R : Nat → Nat → Option Nat} {a : Nat} {A : mz_A} {F s : Nat} (hF : 1100 ≤ F) (x : Int32) (hC : zz_CS I R a A) (hR : zz_RW R a) (hW : zz_WF A) (hs : mz_s0 A = nI s) (hs2 : s ≤ 99999) : ∃ I1, mi_X5_letPass F I R a x = some (I1, (sq_pass x A).2) ∧ zz_fr a I I1 ∧ zz_CS I1 R a (sq_pass x A).1 := by
  unfold mi_X5_letPass sq_pass
  rw [zc_s0 hC, hs]
  rcases zn_ix x (n := 999) (by omega) with h | h | ⟨j, hj, rfl⟩
  · have h1 : x < 1 := by
      rw [Int32.lt_iff_toInt_lt] at h ⊢
      have e0 : (0 : Int32).toInt = 0 := by decide
      have e1 : (1 : Int32).toInt = 1 := by decide
      omega
    rw [if_pos h1, if_pos (Or.inl h1)]
    exact ⟨I, rfl, zz_fr.rfl, hC⟩
  · have h9 : (999 : Int32) < x := h
    rw [if_neg (show ¬ x < 1 from fun q => by
      rw [Int32.lt_iff_toInt_lt] at q h9
      have e0 : (999 : Int32).toInt = 999 := by decide
      have e1 : (1 : Int32).toInt = 1 := by decide
      omega), if_neg (zn_nle32 h9), if_pos (Or.inr h9)]
    exact ⟨I, rfl, zz_fr.rfl, hC⟩
  · by_cases c0 : j = 0
    · subst c0
      rw [if_pos (show nI 0 < 1 by decide), if_pos (Or.inl (show nI 0 < 1 by decide))]
      exact ⟨I, rfl, zz_fr.rfl, hC⟩
    · rw [if_neg (show ¬ nI j < 1 from zl_nlt (b := 1) (by omega) (by omega)), if_pos (show nI j ≤ 999 from zl_le (b := 999) hj (by omega)), if_neg (show ¬ (nI j < 1 ∨ (999 : Int32) < nI j) from fun q => q.elim (fun q => absurd q (zl_nlt (b := 1) (by omega) (by omega))) (fun q => absurd q (zl_nlt (a := 999) hj (by omega)))), nI_add, zi_cl (by omega)]
      by_cases c : s + j ≤ 99999
      · rw [if_pos (show nI (s + j) ≤ 99999 from zl_le (b := 99999) c (by omega)), if_pos (show nI (s + j) ≤ 99999 from zl_le (b := 99999) c (by omega)), zc_shutBottles (by omega) hC hR hW, mz_ob]
        simp only [mz_bn]
        exact zc_passL (by omega) hR hW hs c hj F 0 0 I (by omega) (by omega) (by omega) zz_fr.rfl hC
      · rw [if_neg (show ¬ nI (s + j) ≤ 99999 from zl_nle (b := 99999) (by omega) (by omega)), if_neg (show ¬ nI (s + j) ≤ 99999 from zl_nle (b := 99999) (by omega) (by omega))]
        exact ⟨I, rfl, zz_fr.rfl, hC⟩
theorem sq_pass_s0 {A : mz_A} {x : Int32} {s : Nat} (hs : mz_s0 A = nI s) (hs2 : s ≤ 99999) : ∃ s1, s1 ≤ 99999 ∧ mz_s0 (sq_pass x A).1 = nI s1 := by
  unfold sq_pass
  split
  · exact ⟨s, hs2, hs⟩
  · next hv =>
    split
    · next hc =>
      rcases zn_ix x (n := 999) (by omega) with h | h | ⟨j, hj, rfl⟩
      · refine absurd (Or.inl ?_) hv
        rw [Int32.lt_iff_toInt_lt] at h ⊢
        have e0 : (0 : Int32).toInt = 0 := by decide
        have e1 : (1 : Int32).toInt = 1 := by decide
        omega
      · exact absurd (Or.inr h) hv
      · rw [zi_cl (by omega)]
        rw [hs, nI_add] at hc
        have hc2 : s + j ≤ 99999 := (nI_leI (b := 99999) (by omega) (by omega)).mp hc
        exact ⟨s + j, hc2, by rw [mz_s0_it, hs, nI_add]⟩
    · exact ⟨s, hs2, hs⟩


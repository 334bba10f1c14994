/-! until a bottle is shut, until all is quiet -/
def mz_nb (A : mz_A) : Nat := A.2.2.2.1
def mz_nm (A : mz_A) : Nat := A.2.2.2.2.1
def mz_ms (A : mz_A) : Nat → Nat := A.2.2.2.2.2.2.1
def mz_bt (A : mz_A) : Nat → Nat → Int32 := A.2.2.2.2.2.2.2.2
def mz_cs (A : mz_A) : Nat := sp_cs A.2.1 A.2.2.1
def mz_mu (A : mz_A) : Nat := if mz_nm A = 0 then 0 else mz_ms A (mz_nm A - 1) + 1
theorem sp_inv_end2 {p c w nb nm B : Nat} {mb : Nat → Nat} (hs : ∀ k j, k < j → j < nb → mb k + 5 ≤ mb j) : ∀ (d i M : Nat) (S : mz_S), i + d = nm → M ≤ B → (∀ k, i ≤ k → k < nm → S.2.1 k ≤ B) → sp_inv p w nb nm i M mb S → ∃ M2, M2 ≤ B ∧ sp_inv p w nb nm nm M2 mb (sp_lp p c w nb mb d i S) := by
  intro d
  induction d with
  | zero =>
    intro i M S hid hM _ h
    have : i = nm := by omega
    subst this
    exact ⟨M, hM, h⟩
  | succ d ih =>
    intro i M S hid hM hB h
    obtain ⟨l, ms, sc, bt, sh⟩ := S
    have hli : l ≤ i := h.1
    refine ih (i + 1) _ _ (by omega) (hB i (Nat.le_refl _) (by omega)) (fun k k1 k2 => ?_) (sp_inv_step (c := c) hs (by omega) h)
    rw [sp_one_old hli k (by omega)]
    exact hB k (by omega) k2
theorem mz_mu_sec {A : mz_A} (hW : zz_WF A) (hn : mz_nm A ≠ 0) (hc : mz_cs A < 6) : mz_mu (sq_sec A).1 < mz_mu A := by
  obtain ⟨p, sl, lo, nb, nm, mb, ms, sc, bt⟩ := A
  obtain ⟨⟨w1, w2, w3, w4, w5⟩, x1, x2, x3, x4, x5⟩ := hW
  have hn' : nm ≠ 0 := hn
  have hc' : sp_cs sl lo < 6 := hc
  have hww := sp_w_le (sp_cs sl lo)
  have e : (sq_sec (p, sl, lo, nb, nm, mb, ms, sc, bt)).1 = (p, sl, lo, nb, (sp_lp p (sp_cs sl lo) (sp_w (sp_cs sl lo)) nb mb nm 0 (0, ms, va_up sc 0 (sc 0 + nI 1), bt, 0)).1, mb, (sp_lp p (sp_cs sl lo) (sp_w (sp_cs sl lo)) nb mb nm 0 (0, ms, va_up sc 0 (sc 0 + nI 1), bt, 0)).2.1, (sp_lp p (sp_cs sl lo) (sp_w (sp_cs sl lo)) nb mb nm 0 (0, ms, va_up sc 0 (sc 0 + nI 1), bt, 0)).2.2.1, (sp_lp p (sp_cs sl lo) (sp_w (sp_cs sl lo)) nb mb nm 0 (0, ms, va_up sc 0 (sc 0 + nI 1), bt, 0)).2.2.2.1) := by
    unfold sq_sec
    dsimp only
    rw [if_pos hc']
  rw [e]
  unfold mz_mu mz_nm mz_ms
  dsimp only
  rw [if_neg hn']
  have h0 : sp_inv p (sp_w (sp_cs sl lo)) nb nm 0 0 mb (0, ms, va_up sc 0 (sc 0 + nI 1), bt, 0) := ⟨Nat.le_refl _, Nat.zero_le _, fun k hk => by omega, fun k j h1 h2 => by omega, fun k j h1 h2 h3 => x4 k j h2 h3, fun k h1 h2 => ⟨Nat.zero_le _, (x3 k h2).2⟩, x5⟩
  obtain ⟨M, hMB, hM⟩ := sp_inv_end2 (c := sp_cs sl lo) (B := ms (nm - 1)) x2 nm 0 0 _ (by omega) (Nat.zero_le _) (fun k k1 k2 => x4 k (nm - 1) (by omega) (by omega)) h0
  generalize sp_lp p (sp_cs sl lo) (sp_w (sp_cs sl lo)) nb mb nm 0 (0, ms, va_up sc 0 (sc 0 + nI 1), bt, 0) = S at hM ⊢
  obtain ⟨l, ms2, sc2, bt2, sh2⟩ := S
  obtain ⟨a1, a2, a3, a4, a5, a6, a7⟩ := hM
  dsimp only
  by_cases hl : l = 0
  · rw [if_pos hl]
    omega
  · rw [if_neg hl]
    rcases a3 (l - 1) (by omega) with q | ⟨j, j1, j2, j3, j4⟩ <;> omega
theorem mz_mu_le {A : mz_A} (hW : zz_WF A) : mz_mu A ≤ 1000 := by
  obtain ⟨p, sl, lo, nb, nm, mb, ms, sc, bt⟩ := A
  obtain ⟨⟨w1, w2, w3, w4, w5⟩, x1, x2, x3, x4, x5⟩ := hW
  unfold mz_mu mz_nm mz_ms
  dsimp only
  by_cases h : nm = 0
  · rw [if_pos h]
    omega
  · rw [if_neg h]
    have := (x3 (nm - 1) (by omega)).2
    omega
theorem mz_mu0 {A : mz_A} (h : mz_mu A = 0) : mz_nm A = 0 := by
  unfold mz_mu at h
  by_cases c : mz_nm A = 0
  · exact c
  · rw [if_neg c] at h
    omega
theorem mz_cs_sec (A : mz_A) : mz_cs (sq_sec A).1 = mz_cs A := by
  obtain ⟨p, sl, lo, nb, nm, mb, ms, sc, bt⟩ := A
  unfold sq_sec mz_cs
  dsimp only
  split <;> rfl
theorem mz_nb_sec (A : mz_A) : mz_nb (sq_sec A).1 = mz_nb A := by
  obtain ⟨p, sl, lo, nb, nm, mb, ms, sc, bt⟩ := A
  unfold sq_sec mz_nb
  dsimp only
  split <;> rfl
theorem mz_nb_it : ∀ (n : Nat) (A : mz_A), mz_nb (sp_it n A).1 = mz_nb A := by
  intro n
  induction n with
  | zero => intro A; rfl
  | succ n ih => intro A; exact (ih _).trans (mz_nb_sec A)
theorem mz_qt (q : Nat) (A : mz_A) : mz_nm (sp_qt q A) = mz_nm A ∧ mz_bt (sp_qt q A) = mz_bt A ∧ mz_cs (sp_qt q A) = mz_cs A := ⟨rfl, rfl, rfl⟩
def sp_un (k : Nat) : Nat → mz_A → Option Nat
  | 0, _ => none
  | g + 1, A => if ¬ mz_bt A k 1 = 0 then some 0 else if mz_nm A = 0 ∨ ¬ mz_cs A < 6 then none else (sp_un k g (sq_sec A).1).map (· + 1)
theorem sp_un_le {k : Nat} : ∀ (g u : Nat) (A : mz_A), sp_un k g A = some u → u < g := by
  intro g
  induction g with
  | zero => intro u A h; cases h
  | succ g ih =>
    intro u A h
    unfold sp_un at h
    by_cases c1 : ¬ mz_bt A k 1 = 0
    · rw [if_pos c1] at h
      cases h
      omega
    · rw [if_neg c1] at h
      by_cases c2 : mz_nm A = 0 ∨ ¬ mz_cs A < 6
      · rw [if_pos c2] at h
        cases h
      · rw [if_neg c2] at h
        cases hh : sp_un k g (sq_sec A).1 with
        | none =>
          rw [hh] at h
          cases h
        | some v =>
          rw [hh] at h
          have := ih v _ hh
          simp only [Option.map_some] at h
          cases h
          omega
theorem sp_un_fuel {k : Nat} : ∀ (g h : Nat) (A : mz_A), zz_WF A → mz_mu A < g → mz_mu A < h → sp_un k g A = sp_un k h A := by
  intro g
  induction g with
  | zero => intro h A _ h1; omega
  | succ g ih =>
    intro h A hW h1 h2
    obtain ⟨h, rfl⟩ : ∃ h', h = h' + 1 := ⟨h - 1, by omega⟩
    unfold sp_un
    by_cases c1 : ¬ mz_bt A k 1 = 0
    · rw [if_pos c1, if_pos c1]
    · rw [if_neg c1, if_neg c1]
      by_cases c2 : mz_nm A = 0 ∨ ¬ mz_cs A < 6
      · rw [if_pos c2, if_pos c2]
      · rw [if_neg c2, if_neg c2]
        have := mz_mu_sec hW (fun q => c2 (Or.inl q)) (by by_cases q : mz_cs A < 6; exact q; exact absurd (Or.inr q) c2)
        rw [ih h _ (zw_sec hW) (by omega) (by omega)]
def sp_ur (t : Nat) : Option Nat → Int32
  | none => -1005
  | some u => nI (t + u)
theorem sp_ur_s (t q : Nat) (o : Option Nat) : sp_ur t (o.map (· + q)) = sp_ur (t + q) o := by
  cases o with
  | none => rfl
  | some u =>
    show nI (t + (u + q)) = nI (t + q + u)
    rw [show t + (u + q) = t + q + u by omega]
theorem sp_un_step {k g : Nat} {A : mz_A} (hW : zz_WF A) (h0 : mz_bt A k 1 = 0) (h1 : mz_nm A ≠ 0) (h2 : mz_cs A < 6) (hg : 1001 ≤ g) : sp_un k g A = (sp_un k g (sq_sec A).1).map (· + 1) := by
  have hm := mz_mu_le hW
  have hm2 := mz_mu_le (zw_sec hW)
  rw [sp_un_fuel g (g + 1) A hW (by omega) (by omega)]
  show (if ¬ mz_bt A k 1 = 0 then some 0 else if mz_nm A = 0 ∨ ¬ mz_cs A < 6 then none else (sp_un k g (sq_sec A).1).map (· + 1)) = _
  rw [if_neg (fun q => q h0), if_neg (fun q => q.elim h1 (fun q => q h2))]
theorem sp_un_it {k g : Nat} (hg : 1001 ≤ g) : ∀ (q : Nat) (A : mz_A), zz_WF A → (∀ u, u < q → mz_bt (sp_it u A).1 k 1 = 0 ∧ mz_nm (sp_it u A).1 ≠ 0 ∧ mz_cs (sp_it u A).1 < 6) → sp_un k g A = (sp_un k g (sp_it q A).1).map (· + q) := by
  intro q
  induction q with
  | zero =>
    intro A _ _
    show sp_un k g A = (sp_un k g A).map (· + 0)
    cases sp_un k g A <;> rfl
  | succ q ih =>
    intro A hW h
    obtain ⟨a1, a2, a3⟩ := h 0 (by omega)
    rw [sp_un_step hW a1 a2 a3 hg, ih (sq_sec A).1 (zw_sec hW) (fun u hu => h (u + 1) (by omega))]
    show Option.map _ (Option.map _ (sp_un k g (sp_it q (sq_sec A).1).1)) = Option.map _ (sp_un k g (sp_it q (sq_sec A).1).1)
    cases sp_un k g (sp_it q (sq_sec A).1).1 with
    | none => rfl
    | some v => rfl
theorem zc_nm {I : Nat → Nat → Int32} {R : Nat → Nat → Option Nat} {a : Nat} {A : mz_A} (hC : zz_CS I R a A) (hW : zz_WF A) : I (a + 5) 1 = nI (mz_nm A) ∧ mi_X1_isSticking I (a + 1) = (if mz_cs A < 6 then 0 else 1) ∧ mz_nm A ≤ 12 := by
  obtain ⟨p, sl, lo, nb, nm, mb, ms, sc, bt⟩ := A
  exact ⟨hC.1.2.2.2.2.1, zc_sticking hC.1.2.1 hC.1.2.2.1 hW.1.2.1 hW.1.2.2.1, hW.1.2.2.2.2⟩
theorem zc_bt1 {I : Nat → Nat → Int32} {R : Nat → Nat → Option Nat} {a k : Nat} {A : mz_A} (hC : zz_CS I R a A) (hk : k < mz_nb A) : I (zz_bp R a k) 3 = mz_bt A k 1 := by
  obtain ⟨p, sl, lo, nb, nm, mb, ms, sc, bt⟩ := A
  exact (hC.2.2.2 k hk).2.2.2.1
theorem zc_unL {R : Nat → Nat → Option Nat} {F a k : Nat} {st : Int32} (hF : 20 ≤ F) (hR : zz_RW R a) : ∀ (n i t : Nat) (A : mz_A) (I : Nat → Nat → Int32), zz_CS I R a A → zz_WF A → k < mz_nb A → mz_bt A k 1 = 0 → mz_mu A < n → mz_mu A + i < 2000 → mz_s0 A = st + nI t → ∃ I1, mi_X5_runUntilShut_L14 F n I R a (some (zz_bp R a k)) st (nI i) = some (I1, sp_ur t (sp_un k 1100 A)) ∧ zz_fr a I I1 := by
  intro n
  induction n with
  | zero => intro i t A I _ _ _ _ h; omega
  | succ n ih =>
    intro i t A I hC hW hk hb hmu hi hs
    show ∃ I1, mi_X5_runUntilShut_B14 _ F I R _ _ _ _ = _ ∧ _
    obtain ⟨g1, g2, g3⟩ := zc_nm hC hW
    have hm0 := mz_mu_le hW
    unfold mi_X5_runUntilShut_B14
    rw [if_neg (show ¬ (2000 : Int32) ≤ nI i from zl_nle (a := 2000) (by omega) (by omega)), g1, g2]
    have hun : sp_un k 1100 A = if mz_nm A = 0 ∨ ¬ mz_cs A < 6 then none else (sp_un k 1099 (sq_sec A).1).map (· + 1) := by
      show (if ¬ mz_bt A k 1 = 0 then some 0 else _) = _
      rw [if_neg (fun q => q hb)]
    by_cases c2 : mz_nm A = 0
    · rw [if_pos (show nI (mz_nm A) ≤ 0 from zl_le (b := 0) (by omega) (by omega)), hun, if_pos (Or.inl c2)]
      exact ⟨I, rfl, zz_fr.rfl⟩
    · rw [if_neg (show ¬ nI (mz_nm A) ≤ 0 from zl_nle (b := 0) (by omega) (by omega))]
      by_cases c3 : mz_cs A < 6
      · rw [if_pos c3, if_pos rfl]
        obtain ⟨I2, q, e1, e2, e3, e4, e5⟩ := zc_skip (F := F) (most := 2000) hF hC hR hW (by omega)
        rw [show mi_X5_skipQuietSeconds F I R a 2000 = some I2 from e1, mz_ob]
        have hWq := zw_it q A hW
        obtain ⟨I3, f1, f2, f3⟩ := zc_sec hF e4 hR hWq
        rw [f1, mz_ob, mz_oms]
        have hst : (sp_it (q + 1) A).1 = (sq_sec (sp_it q A).1).1 := by rw [sp_it_add q 1 A, sp_it_one]
        have hWq1 := zw_it (q + 1) A hW
        rw [← hst] at f3
        have hnb := mz_nb_it (q + 1) A
        rw [zc_bt1 f3 (by rw [hnb]; exact hk)]
        have hsame : ∀ u, u < q + 1 → mz_bt (sp_it u A).1 k 1 = 0 ∧ mz_nm (sp_it u A).1 ≠ 0 ∧ mz_cs (sp_it u A).1 < 6 := fun u hu => by
          rw [e5 u (by omega)]
          exact ⟨hb, c2, c3⟩
        have h1 := sp_un_it (k := k) (g := 1100) (by omega) (q + 1) A hW hsame
        rw [h1, sp_ur_s]
        have hs1 : mz_s0 (sp_it (q + 1) A).1 = st + nI (t + (q + 1)) := by rw [mz_s0_it, hs, Int32.add_assoc, nI_add]
        by_cases c4 : mz_bt (sp_it (q + 1) A).1 k 1 = 0
        · rw [if_pos c4]
          simp only [mz_bn]
          rw [show nI i + 1 = nI (i + 1) from nI_add i 1]
          have hmq : mz_mu (sp_it (q + 1) A).1 < mz_mu A := by
            have hA : mz_mu (sp_it q A).1 ≤ mz_mu A := by
              rw [e5 q (Nat.le_refl _)]
              show mz_mu (sp_qt q A) ≤ mz_mu A
              obtain ⟨p, sl, lo, nb, nm, mb, ms, sc, bt⟩ := A
              have c2' : nm ≠ 0 := c2
              unfold mz_mu mz_nm mz_ms sp_qt
              dsimp only
              rw [if_neg c2', if_neg c2', if_pos (show nm - 1 < nm by omega)]
              omega
            rw [hst]
            have := mz_mu_sec hWq (hsame q (by omega)).2.1 (hsame q (by omega)).2.2
            omega
          obtain ⟨I1, y1, y2⟩ := ih (i + 1) (t + (q + 1)) _ I3 f3 hWq1 (by rw [hnb]; exact hk) c4 (by omega) (by omega) hs1
          exact ⟨I1, y1, (e3.trans f2).trans y2⟩
        · rw [if_neg c4, zc_s0 f3, hs1]
          have h2 : sp_un k 1100 (sp_it (q + 1) A).1 = some 0 := by
            show (if ¬ mz_bt (sp_it (q + 1) A).1 k 1 = 0 then some 0 else _) = _
            rw [if_pos c4]
          rw [h2]
          refine ⟨I3, ?_, e3.trans f2⟩
          have : st + nI (t + (q + 1)) - st = nI (t + (q + 1)) := by
            rw [Int32.add_comm, Int32.add_sub_cancel]
          rw [this]
          rfl
      · rw [if_neg c3, if_neg (show ¬ (1 : Int32) = 0 by decide), hun, if_pos (Or.inr c3)]
        exact ⟨I, rfl, zz_fr.rfl⟩
def sp_uq : Nat → mz_A → Nat
  | 0, _ => 0
  | g + 1, A => if mz_nm A = 0 then 0 else sp_uq g (sq_sec A).1 + 1
theorem sp_uq_fuel : ∀ (g h : Nat) (A : mz_A), zz_WF A → (mz_nm A = 0 ∨ mz_cs A < 6) → mz_mu A < g → mz_mu A < h → sp_uq g A = sp_uq h A := by
  intro g
  induction g with
  | zero => intro h A _ _ h1; omega
  | succ g ih =>
    intro h A hW hc h1 h2
    obtain ⟨h, rfl⟩ : ∃ h', h = h' + 1 := ⟨h - 1, by omega⟩
    unfold sp_uq
    by_cases c : mz_nm A = 0
    · rw [if_pos c, if_pos c]
    · rw [if_neg c, if_neg c]
      have hc6 := hc.resolve_left c
      have := mz_mu_sec hW c hc6
      rw [ih h _ (zw_sec hW) (Or.inr (by rw [mz_cs_sec]; exact hc6)) (by omega) (by omega)]
theorem sp_uq_it {g : Nat} (hg : 1001 ≤ g) : ∀ (q : Nat) (A : mz_A), zz_WF A → (∀ u, u < q → mz_nm (sp_it u A).1 ≠ 0 ∧ mz_cs (sp_it u A).1 < 6) → sp_uq g A = sp_uq g (sp_it q A).1 + q := by
  intro q
  induction q with
  | zero => intro A _ _; rfl
  | succ q ih =>
    intro A hW h
    obtain ⟨a2, a3⟩ := h 0 (by omega)
    have hm := mz_mu_le hW
    have h1 : sp_uq g A = sp_uq g (sq_sec A).1 + 1 := by
      rw [sp_uq_fuel g (g + 1) A hW (Or.inr a3) (by omega) (by omega)]
      show (if mz_nm A = 0 then 0 else sp_uq g (sq_sec A).1 + 1) = _
      rw [if_neg (show ¬ mz_nm A = 0 from a2)]
    rw [h1, ih (sq_sec A).1 (zw_sec hW) (fun u hu => h (u + 1) (by omega))]
    show sp_uq g (sp_it q (sq_sec A).1).1 + q + 1 = sp_uq g (sp_it q (sq_sec A).1).1 + (q + 1)
    omega
theorem zc_uqL {R : Nat → Nat → Option Nat} {F a : Nat} {st : Int32} (hF : 20 ≤ F) (hR : zz_RW R a) : ∀ (n i t : Nat) (A : mz_A) (I : Nat → Nat → Int32), zz_CS I R a A → zz_WF A → mz_cs A < 6 → mz_mu A < n → mz_mu A + i < 2000 → mz_s0 A = st + nI t → ∃ I1, mi_X5_runUntilQuiet_L7 F n I R a st (nI i) = some (I1, nI (t + sp_uq 1100 A)) ∧ zz_fr a I I1 := by
  intro n
  induction n with
  | zero => intro i t A I _ _ _ h; omega
  | succ n ih =>
    intro i t A I hC hW c3 hmu hi hs
    show ∃ I1, mi_X5_runUntilQuiet_B7 _ F I R _ _ _ = _ ∧ _
    obtain ⟨g1, g2, g3⟩ := zc_nm hC hW
    have hm0 := mz_mu_le hW
    unfold mi_X5_runUntilQuiet_B7
    rw [if_neg (show ¬ (2000 : Int32) ≤ nI i from zl_nle (a := 2000) (by omega) (by omega)), g1, g2]
    by_cases c2 : mz_nm A = 0
    · have h2 : sp_uq 1100 A = 0 := by
        show (if mz_nm A = 0 then 0 else _) = _
        rw [if_pos c2]
      rw [if_pos (show nI (mz_nm A) ≤ 0 from zl_le (b := 0) (by omega) (by omega)), zc_s0 hC, hs, h2, Int32.add_comm, Int32.add_sub_cancel]
      exact ⟨I, rfl, zz_fr.rfl⟩
    · rw [if_neg (show ¬ nI (mz_nm A) ≤ 0 from zl_nle (b := 0) (by omega) (by omega)), if_pos c3, if_pos rfl]
      obtain ⟨I2, q, e1, e2, e3, e4, e5⟩ := zc_skip (F := F) (most := 2000) hF hC hR hW (by omega)
      rw [show mi_X5_skipQuietSeconds F I R a 2000 = some I2 from e1, mz_ob]
      have hWq := zw_it q A hW
      obtain ⟨I3, f1, f2, f3⟩ := zc_sec hF e4 hR hWq
      rw [f1, mz_ob]
      have hst : (sp_it (q + 1) A).1 = (sq_sec (sp_it q A).1).1 := by rw [sp_it_add q 1 A, sp_it_one]
      have hWq1 := zw_it (q + 1) A hW
      rw [← hst] at f3
      have hsame : ∀ u, u < q + 1 → mz_nm (sp_it u A).1 ≠ 0 ∧ mz_cs (sp_it u A).1 < 6 := fun u hu => by
        rw [e5 u (by omega)]
        exact ⟨c2, c3⟩
      have h1 := sp_uq_it (g := 1100) (by omega) (q + 1) A hW hsame
      have hs1 : mz_s0 (sp_it (q + 1) A).1 = st + nI (t + (q + 1)) := by rw [mz_s0_it, hs, Int32.add_assoc, nI_add]
      simp only [mz_bn]
      rw [show nI i + 1 = nI (i + 1) from nI_add i 1]
      have hmq : mz_mu (sp_it (q + 1) A).1 < mz_mu A := by
        have hA : mz_mu (sp_it q A).1 ≤ mz_mu A := by
          rw [e5 q (Nat.le_refl _)]
          show mz_mu (sp_qt q A) ≤ mz_mu A
          obtain ⟨p, sl, lo, nb, nm, mb, ms, sc, bt⟩ := A
          have c2' : nm ≠ 0 := c2
          unfold mz_mu mz_nm mz_ms sp_qt
          dsimp only
          rw [if_neg c2', if_neg c2', if_pos (show nm - 1 < nm by omega)]
          omega
        rw [hst]
        have := mz_mu_sec hWq (hsame q (by omega)).1 (hsame q (by omega)).2
        omega
      have hcq : mz_cs (sp_it (q + 1) A).1 < 6 := by
        rw [hst, mz_cs_sec]
        exact (hsame q (by omega)).2
      obtain ⟨I1, y1, y2⟩ := ih (i + 1) (t + (q + 1)) _ I3 f3 hWq1 hcq (by omega) (by omega) hs1
      rw [h1, show t + (sp_uq 1100 (sp_it (q + 1) A).1 + (q + 1)) = t + (q + 1) + sp_uq 1100 (sp_it (q + 1) A).1 by omega]
      exact ⟨I1, y1, (e3.trans f2).trans y2⟩


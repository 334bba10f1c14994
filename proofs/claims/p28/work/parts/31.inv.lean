/-! one second: the order of the marks is kept -/
def sp_fl (nb : Nat) (bt : Nat → Nat → Int32) : Prop := ∀ k, k < nb → (bt k 1 = 0 ∨ bt k 1 = 1) ∧ (bt k 2 = 0 ∨ bt k 2 = 1) ∧ (bt k 4 = 0 ∨ bt k 4 = 1)
def sp_inv (p w nb nm i M : Nat) (mb : Nat → Nat) : mz_S → Prop
  | (l, ms, _, bt, _) => l ≤ i ∧ M ≤ p ∧ (∀ k, k < l → ms k + w ≤ M ∨ ∃ j, j < nb ∧ ms k = mb j ∧ mb j < M ∧ mb j < p) ∧ (∀ k j, k ≤ j → j < l → ms k ≤ ms j) ∧ (∀ k j, i ≤ k → k ≤ j → j < nm → ms k ≤ ms j) ∧ (∀ k, i ≤ k → k < nm → M ≤ ms k ∧ ms k ≤ p) ∧ sp_fl nb bt
theorem sp_sk_flags {p c : Nat} {sc : Nat → Int32} {g : Nat} {t : Nat → Int32} (h : (t 1 = 0 ∨ t 1 = 1) ∧ (t 2 = 0 ∨ t 2 = 1) ∧ (t 4 = 0 ∨ t 4 = 1)) : (sp_sk p c sc g t 1 = 0 ∨ sp_sk p c sc g t 1 = 1) ∧ (sp_sk p c sc g t 2 = 0 ∨ sp_sk p c sc g t 2 = 1) ∧ (sp_sk p c sc g t 4 = 0 ∨ sp_sk p c sc g t 4 = 1) := by
  unfold sp_sk
  by_cases c1 : t 1 = 0
  · rw [if_pos c1]
    by_cases c2 : t 2 = 0
    · rw [if_pos c2]
      exact ⟨Or.inr rfl, h.2.1, h.2.2⟩
    · rw [if_neg c2, va_up_self, va_up_ne _ _ (by omega), va_up_ne _ _ (by omega)]
      exact ⟨Or.inr rfl, Or.inl rfl, h.2.2⟩
  · rw [if_neg c1, va_up_ne _ _ (by omega), va_up_ne _ _ (by omega), va_up_ne _ _ (by omega)]
    exact h
theorem sp_fl_sk {nb p c k : Nat} {sc : Nat → Int32} {g : Nat} {bt : Nat → Nat → Int32} (h : sp_fl nb bt) : sp_fl nb (va_up bt k (sp_sk p c sc g (bt k))) := by
  intro j hj
  by_cases e : j = k
  · subst e
    rw [va_up_self]
    exact sp_sk_flags (h j hj)
  · rw [va_up_ne _ _ e]
    exact h j hj
/-- every place that is taken stands below the bottle that is struck, and below where the messenger comes to -/
theorem sp_below {p w nb M m : Nat} {mb : Nat → Nat} {e : Nat} (hs : ∀ k j, k < j → j < nb → mb k + 5 ≤ mb j) (hM : M ≤ m) (he : e + w ≤ M ∨ ∃ j, j < nb ∧ e = mb j ∧ mb j < M ∧ mb j < p) : (∀ k, sp_hit p m w mb nb = some k → e ≤ mb k) ∧ (sp_hit p m w mb nb = none → e ≤ m - w) := by
  refine ⟨fun k hk => ?_, fun hk => ?_⟩
  · obtain ⟨a1, a2, a3, a4, a5⟩ := sp_hit_some hk
    rcases he with he | ⟨j, j1, j2, j3, j4⟩
    · omega
    · subst j2
      rcases Nat.lt_trichotomy j k with g | g | g
      · have := hs j k g a1
        omega
      · subst g
        exact Nat.le_refl _
      · have h1 := a5 j g j1
        have h2 := hs k j g j1
        exact absurd ⟨by omega, by omega, j4⟩ h1
  · rcases he with he | ⟨j, j1, j2, j3, j4⟩
    · omega
    · subst j2
      have h1 := sp_hit_none hk j j1
      have : ¬ m ≤ mb j + w := fun q => h1 ⟨by omega, q, j4⟩
      omega
theorem sp_inv_step {p c w nb nm i M : Nat} {mb : Nat → Nat} {l sh : Nat} {ms : Nat → Nat} {sc : Nat → Int32} {bt : Nat → Nat → Int32} (hs : ∀ k j, k < j → j < nb → mb k + 5 ≤ mb j) (hi : i < nm) (h : sp_inv p w nb nm i M mb (l, ms, sc, bt, sh)) : sp_inv p w nb nm (i + 1) (ms i) mb (sp_one p c w nb mb (ms i) (l, ms, sc, bt, sh)) := by
  obtain ⟨a1, a2, a3, a4, a5, a6, a7⟩ := h
  have hMm := a6 i (Nat.le_refl _) hi
  have old : ∀ k, k < l → ms k + w ≤ ms i ∨ ∃ j, j < nb ∧ ms k = mb j ∧ mb j < ms i ∧ mb j < p := fun k hk => by
    rcases a3 k hk with q | ⟨j, j1, j2, j3, j4⟩
    · exact Or.inl (by omega)
    · exact Or.inr ⟨j, j1, j2, by omega, j4⟩
  have keep : ∀ (sd : Nat → Int32) (bd : Nat → Nat → Int32) (s : Nat), sp_fl nb bd → sp_inv p w nb nm (i + 1) (ms i) mb (l, ms, sd, bd, s) := fun sd bd s hb => ⟨by omega, hMm.2, old, a4, fun k j h1 h2 h3 => a5 k j (by omega) h2 h3, fun k h1 h2 => ⟨a5 i k (Nat.le_refl _) (by omega) h2, (a6 k (by omega) h2).2⟩, hb⟩
  have put : ∀ (v : Nat) (sd : Nat → Int32) (bd : Nat → Nat → Int32) (s : Nat), sp_fl nb bd → (v + w ≤ ms i ∨ ∃ j, j < nb ∧ v = mb j ∧ mb j < ms i ∧ mb j < p) → (∀ k, k < l → ms k ≤ v) → sp_inv p w nb nm (i + 1) (ms i) mb (l + 1, va_up ms l v, sd, bd, s) := by
    intro v sd bd s hb hv hlo
    refine ⟨by omega, hMm.2, fun k hk => ?_, fun k j h1 h2 => ?_, fun k j h1 h2 h3 => ?_, fun k h1 h2 => ?_, hb⟩
    · by_cases e : k = l
      · subst e
        rw [va_up_self]
        exact hv
      · rw [va_up_ne _ _ e]
        exact old k (by omega)
    · by_cases e : j = l
      · subst e
        rw [va_up_self]
        by_cases e2 : k = j
        · subst e2
          rw [va_up_self]
          exact Nat.le_refl _
        · rw [va_up_ne _ _ e2]
          exact hlo k (by omega)
      · rw [va_up_ne _ _ e, va_up_ne _ _ (by omega)]
        exact a4 k j h1 (by omega)
    · rw [va_up_ne _ _ (by omega), va_up_ne _ _ (by omega)]
      exact a5 k j (by omega) h2 h3
    · rw [va_up_ne _ _ (by omega)]
      exact ⟨a5 i k (Nat.le_refl _) (by omega) h2, (a6 k (by omega) h2).2⟩
  unfold sp_one
  dsimp only
  cases hh : sp_hit p (ms i) w mb nb with
  | none =>
    dsimp only
    by_cases c2 : w < ms i
    · rw [if_pos c2]
      exact put _ _ _ _ a7 (Or.inl (by omega)) (fun k hk => (sp_below hs hMm.1 (a3 k hk)).2 hh)
    · rw [if_neg c2]
      exact keep _ _ _ a7
  | some k =>
    dsimp only
    obtain ⟨k1, k2, k3, k4, -⟩ := sp_hit_some hh
    by_cases cl : bt k 1 = 0 ∧ ¬ bt k 2 = 0
    · rw [if_pos cl]
      exact put _ _ _ _ (sp_fl_sk a7) (Or.inr ⟨k, k1, rfl, k2, k4⟩) (fun j hj => (sp_below hs hMm.1 (a3 j hj)).1 k hh)
    · rw [if_neg cl]
      exact keep _ _ _ (sp_fl_sk a7)
theorem sp_one_old {p c w nb m i l sh : Nat} {mb : Nat → Nat} {ms : Nat → Nat} {sc : Nat → Int32} {bt : Nat → Nat → Int32} (hl : l ≤ i) : ∀ k, i < k → (sp_one p c w nb mb m (l, ms, sc, bt, sh)).2.1 k = ms k := by
  intro k hk
  unfold sp_one
  dsimp only
  cases sp_hit p m w mb nb with
  | none =>
    dsimp only
    split
    · exact va_up_ne _ _ (by omega)
    · rfl
  | some j =>
    dsimp only
    split
    · exact va_up_ne _ _ (by omega)
    · rfl
theorem sp_inv_end {p c w nb nm : Nat} {mb : Nat → Nat} (hs : ∀ k j, k < j → j < nb → mb k + 5 ≤ mb j) : ∀ (d i M : Nat) (S : mz_S), i + d = nm → sp_inv p w nb nm i M mb S → ∃ M2, sp_inv p w nb nm nm M2 mb (sp_lp p c w nb mb d i S) := by
  intro d
  induction d with
  | zero =>
    intro i M S hid h
    have : i = nm := by omega
    subst this
    exact ⟨M, h⟩
  | succ d ih =>
    intro i M S hid h
    obtain ⟨l, ms, sc, bt, sh⟩ := S
    exact ih (i + 1) _ _ (by omega) (sp_inv_step hs (by omega) h)
theorem sp_lp_l {p c w nb : Nat} {mb : Nat → Nat} : ∀ (d i : Nat) (S : mz_S), (sp_lp p c w nb mb d i S).1 ≤ S.1 + d := by
  intro d
  induction d with
  | zero => intro i S; exact Nat.le_refl _
  | succ d ih =>
    intro i S
    obtain ⟨l, ms, sc, bt, sh⟩ := S
    have h1 := ih (i + 1) (sp_one p c w nb mb (ms i) (l, ms, sc, bt, sh))
    have h2 : (sp_one p c w nb mb (ms i) (l, ms, sc, bt, sh)).1 ≤ l + 1 := by
      unfold sp_one
      dsimp only
      cases sp_hit p (ms i) w mb nb with
      | none =>
        dsimp only
        split <;> simp
      | some j =>
        dsimp only
        split <;> simp
    have h3 : (sp_lp p c w nb mb (d + 1) i (l, ms, sc, bt, sh)) = sp_lp p c w nb mb d (i + 1) (sp_one p c w nb mb (ms i) (l, ms, sc, bt, sh)) := rfl
    rw [h3]
    show _ ≤ l + (d + 1)
    omega
theorem zw_sec {A : mz_A} (hW : zz_WF A) : zz_WF (sq_sec A).1 := by
  obtain ⟨p, sl, lo, nb, nm, mb, ms, sc, bt⟩ := A
  obtain ⟨⟨w1, w2, w3, w4, w5⟩, x1, x2, x3, x4, x5⟩ := hW
  unfold sq_sec
  dsimp only
  by_cases c : sp_cs sl lo < 6
  · rw [if_pos c]
    have h0 : sp_inv p (sp_w (sp_cs sl lo)) nb nm 0 0 mb (0, ms, va_up sc 0 (sc 0 + nI 1), bt, 0) := ⟨Nat.le_refl _, Nat.zero_le _, fun k hk => by omega, fun k j h1 h2 => by omega, fun k j h1 h2 h3 => x4 k j h2 h3, fun k h1 h2 => ⟨Nat.zero_le _, (x3 k h2).2⟩, x5⟩
    obtain ⟨M, hM⟩ := sp_inv_end (c := sp_cs sl lo) x2 nm 0 0 _ (by omega) h0
    have hl := sp_lp_l (p := p) (c := sp_cs sl lo) (w := sp_w (sp_cs sl lo)) (nb := nb) (mb := mb) nm 0 (0, ms, va_up sc 0 (sc 0 + nI 1), bt, 0)
    generalize sp_lp p (sp_cs sl lo) (sp_w (sp_cs sl lo)) nb mb nm 0 (0, ms, va_up sc 0 (sc 0 + nI 1), bt, 0) = S at hM hl
    obtain ⟨l, ms2, sc2, bt2, sh2⟩ := S
    obtain ⟨a1, a2, a3, a4, a5, a6, a7⟩ := hM
    refine ⟨⟨w1, w2, w3, w4, by dsimp only at hl ⊢; omega⟩, x1, x2, fun k hk => ⟨Nat.zero_le _, ?_⟩, a4, a7⟩
    rcases a3 k hk with q | ⟨j, j1, j2, j3, j4⟩
    · dsimp only; omega
    · dsimp only; omega
  · rw [if_neg c]
    exact ⟨⟨w1, w2, w3, w4, w5⟩, x1, x2, x3, x4, x5⟩


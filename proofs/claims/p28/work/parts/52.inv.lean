/-! what holds of every state: accounts, bottles, water -/
def zk_wa (x : Int32) : Prop := ∃ v : Nat, v ≤ 320 ∧ x + 20 = nI v
def zk_sa (x : Int32) : Prop := ∃ v : Nat, v ≤ 420 ∧ x = nI v
def zk_v (s : Nat) (t : Nat → Int32) : Prop := ∃ u m e l : Nat, u ≤ s ∧ t 5 = nI u ∧ m ≤ 999 ∧ t 9 = nI m ∧ 10 * e ≤ m ∧ t 7 = t 6 + nI e ∧ l ≤ 9 ∧ t 10 = nI l ∧ zk_wa (t 6) ∧ zk_sa (t 8)
def zk_b (s N : Nat) (t : Nat → Int32) : Prop := (t 1 = 0 → t 3 = 0 ∧ t 4 = 0) ∧ (∃ n, n ≤ N ∧ t 3 = nI n) ∧ (t 1 = 1 → (t 4 = 1 ∨ ∃ n, 1 ≤ n ∧ n ≤ N ∧ t 3 = nI n) ∧ (t 2 = 1 → t 4 = 1) ∧ zk_v s t)
def zk_w (sc : Nat → Int32) : Prop := ∀ j, j < 10 → zk_wa (sc (13 + 2 * j)) ∧ zk_sa (sc (14 + 2 * j))
def zk_st (sc : Nat → Int32) : Prop := (∃ c : Nat, c ≤ 999 ∧ sc 12 = nI c) ∧ ∃ c : Nat, c ≤ 999 ∧ sc 11 = nI c
theorem zk_st.cg {sc sd : Nat → Int32} (h : zk_st sc) (e1 : sd 11 = sc 11) (e2 : sd 12 = sc 12) : zk_st sd := by
  unfold zk_st
  rw [e1, e2]
  exact h
def zk_iv (s : Nat) : mz_A → Prop
  | (_, _, _, nb, nm, _, _, sc, bt) => sc 0 = nI s ∧ zk_st sc ∧ (∀ k, k < nb → zk_b s (12 * s) (bt k)) ∧ zk_w sc ∧ sc 6 + sc 7 = nI nm + sc 8 + sc 9 + sc 10
def zk_ok (A : mz_A) : Prop := zz_WF A ∧ ∃ s, s ≤ 99999 ∧ zk_iv s A
theorem zk_v.mono {s s1 : Nat} {t : Nat → Int32} (h : zk_v s t) (hs : s ≤ s1) : zk_v s1 t := by
  obtain ⟨u, m, e, l, a, b⟩ := h
  exact ⟨u, m, e, l, by omega, b⟩
theorem zk_b.mono {s s1 N N1 : Nat} {t : Nat → Int32} (h : zk_b s N t) (hs : s ≤ s1) (hN : N ≤ N1) : zk_b s1 N1 t := by
  obtain ⟨a, ⟨n, b1, b2⟩, c⟩ := h
  refine ⟨a, ⟨n, by omega, b2⟩, fun h1 => ?_⟩
  obtain ⟨c1, c2, c3⟩ := c h1
  refine ⟨c1.imp id (fun ⟨n, x, y, z⟩ => ⟨n, x, by omega, z⟩), c2, c3.mono hs⟩
theorem zk_v.cg {s : Nat} {t t1 : Nat → Int32} (h : zk_v s t) (e : ∀ j, 5 ≤ j → j ≤ 10 → t1 j = t j) : zk_v s t1 := by
  unfold zk_v
  rw [e 5 (by omega) (by omega), e 6 (by omega) (by omega), e 7 (by omega) (by omega), e 8 (by omega) (by omega), e 9 (by omega) (by omega), e 10 (by omega) (by omega)]
  exact h
theorem zk_dep_le {m c : Nat} (hm : m ≤ 999) : sp_dep m c ≤ m := by
  have h : m * sp_f c ≤ m * 1000 := Nat.mul_le_mul_left m (sp_f_le c).1
  unfold sp_dep
  omega
theorem zk_sb {s p c g : Nat} {sc : Nat → Int32} {t : Nat → Int32} (h0 : sc 0 = nI s) (hw : zk_w sc) (hp : p ≤ 999) : zk_v s (sp_sb p c sc g t) := by
  have hd := zk_dep_le (m := p - g) (c := c) (by omega)
  have hl := sp_lay_le (sp_dep (p - g) c)
  obtain ⟨w1, w2⟩ := hw (sp_lay (sp_dep (p - g) c)) (by omega)
  exact ⟨s, p - g, sp_dep (p - g) c / 10, sp_lay (sp_dep (p - g) c), Nat.le_refl _, h0, by omega, rfl, by omega, rfl, hl, rfl, w1, w2⟩
theorem sp_sb_lo {p c g : Nat} {sc : Nat → Int32} {t : Nat → Int32} : sp_sb p c sc g t 1 = 1 ∧ sp_sb p c sc g t 2 = t 2 ∧ sp_sb p c sc g t 3 = t 3 ∧ sp_sb p c sc g t 4 = t 4 := ⟨rfl, rfl, rfl, rfl⟩
theorem zn_succ (n : Nat) : nI n + nI 1 = nI (n + 1) := nI_add n 1
theorem zk_n0 {t : Int32} (h : ¬ t = 0) (h2 : t = 0 ∨ t = 1) : t = 1 := h2.resolve_left h
theorem zk_10 : ¬ ((1 : Int32) = 0) := by decide
theorem zk_01 : ¬ ((0 : Int32) = 1) := by decide
theorem zk_jk {s N p c g : Nat} {sc : Nat → Int32} {t : Nat → Int32} (h0 : sc 0 = nI s) (hw : zk_w sc) (hp : p ≤ 999) (h : zk_b s N t) : zk_b s N (va_up (sp_sb p c sc g t) 4 1) := by
  obtain ⟨a, ⟨n, b1, b2⟩, d⟩ := h
  have e : ∀ j, j ≠ 4 → va_up (sp_sb p c sc g t) 4 1 j = sp_sb p c sc g t j := fun j hj => va_up_ne _ _ hj
  refine ⟨fun h1 => ?_, ⟨n, b1, ?_⟩, fun _ => ⟨Or.inl (va_up_self _ _ _), fun _ => va_up_self _ _ _, ?_⟩⟩
  · rw [e 1 (by omega)] at h1
    exact absurd h1 zk_10
  · rw [e 3 (by omega)]
    exact b2
  · exact (zk_sb (t := t) (c := c) (g := g) h0 hw hp).cg (fun j j1 j2 => e j (by omega))
theorem zk_sk {s N p c g : Nat} {sc : Nat → Int32} {t : Nat → Int32} (h0 : sc 0 = nI s) (hw : zk_w sc) (hp : p ≤ 999) (h1 : t 1 = 0 ∨ t 1 = 1) (h2 : t 2 = 0 ∨ t 2 = 1) (h : zk_b s N t) : zk_b s (N + 1) (sp_sk p c sc g t) := by
  obtain ⟨a, ⟨n, b1, b2⟩, d⟩ := h
  have e3 : ∀ j, j ≠ 3 → va_up t 3 (t 3 + nI 1) j = t j := fun j hj => va_up_ne _ _ hj
  have s3 : va_up t 3 (t 3 + nI 1) 3 = nI (n + 1) := by rw [va_up_self, b2, zn_succ]
  unfold sp_sk
  by_cases c1 : t 1 = 0
  · rw [if_pos c1]
    have hv := zk_sb (s := s) (p := p) (c := c) (g := g) (t := va_up t 3 (t 3 + nI 1)) h0 hw hp
    by_cases c2 : t 2 = 0
    · rw [if_pos c2]
      refine ⟨fun q => absurd q zk_10, ⟨n + 1, by omega, s3⟩, fun _ => ⟨Or.inr ⟨n + 1, by omega, by omega, s3⟩, fun q => ?_, hv⟩⟩
      have q2 : va_up t 3 (t 3 + nI 1) 2 = 1 := q
      rw [e3 2 (by omega), c2] at q2
      exact absurd q2 zk_01
    · rw [if_neg c2]
      have e2 : ∀ j, j ≠ 2 → va_up (sp_sb p c sc g (va_up t 3 (t 3 + nI 1))) 2 0 j = sp_sb p c sc g (va_up t 3 (t 3 + nI 1)) j := fun j hj => va_up_ne _ _ hj
      refine ⟨fun q => ?_, ⟨n + 1, by omega, ?_⟩, fun _ => ⟨Or.inr ⟨n + 1, by omega, by omega, ?_⟩, fun q => ?_, hv.cg (fun j j1 j2 => e2 j (by omega))⟩⟩
      · rw [e2 1 (by omega)] at q
        exact absurd q zk_10
      · rw [e2 3 (by omega)]
        exact s3
      · rw [e2 3 (by omega)]
        exact s3
      · rw [va_up_self] at q
        exact absurd q zk_01
  · rw [if_neg c1]
    have t1 := zk_n0 c1 h1
    obtain ⟨d1, d2, d3⟩ := d t1
    refine ⟨fun q => ?_, ⟨n + 1, by omega, s3⟩, fun _ => ⟨Or.inr ⟨n + 1, by omega, by omega, s3⟩, fun q => ?_, d3.cg (fun j j1 j2 => e3 j (by omega))⟩⟩
    · rw [e3 1 (by omega)] at q
      exact absurd q c1
    · rw [e3 2 (by omega)] at q
      rw [e3 4 (by omega)]
      exact d2 q
/-! a second -/
def zk_S (s N0 nb nm i : Nat) : mz_S → Prop
  | (l, _, sc, bt, _) => l ≤ i ∧ sc 0 = nI s ∧ zk_st sc ∧ (∀ k, k < nb → zk_b s (N0 + i) (bt k)) ∧ sp_fl nb bt ∧ zk_w sc ∧ sc 6 + sc 7 = nI (l + (nm - i)) + sc 8 + sc 9 + sc 10
theorem zk_w.cg {sc sd : Nat → Int32} (h : zk_w sc) (e : ∀ q, 13 ≤ q → sd q = sc q) : zk_w sd := fun j hj => by
  rw [e _ (by omega), e _ (by omega)]
  exact h j hj
theorem zk_one {s N0 nb nm i p c w l sh : Nat} {mb ms : Nat → Nat} {sc : Nat → Int32} {bt : Nat → Nat → Int32} (m : Nat) (hp : p ≤ 999) (hi : i < nm) (h : zk_S s N0 nb nm i (l, ms, sc, bt, sh)) : zk_S s N0 nb nm (i + 1) (sp_one p c w nb mb m (l, ms, sc, bt, sh)) := by
  obtain ⟨a1, a2, a3, a4, a5, a6, a7⟩ := h
  have u : ∀ (f : Nat → Int32) (q j : Nat) (v : Int32), j ≠ q → va_up f q v j = f j := fun f q j v hj => va_up_ne _ _ hj
  have hbt : ∀ k, sp_hit p m w mb nb = some k → ∀ j, j < nb → zk_b s (N0 + (i + 1)) (va_up bt k (sp_sk p c sc (mb k) (bt k)) j) := fun k hk j hj => by
    by_cases e : j = k
    · subst e
      rw [va_up_self]
      exact zk_sk a2 a6 hp (a5 j hj).1 (a5 j hj).2.1 (a4 j hj)
    · rw [va_up_ne _ _ e]
      exact (a4 j hj).mono (Nat.le_refl _) (by omega)
  unfold sp_one
  dsimp only
  cases hh : sp_hit p m w mb nb with
  | none =>
    dsimp only
    by_cases cw : w < m
    · rw [if_pos cw]
      exact ⟨by omega, a2, a3, fun k hk => (a4 k hk).mono (Nat.le_refl _) (by omega), a5, a6, by rw [show l + 1 + (nm - (i + 1)) = l + (nm - i) by omega]; exact a7⟩
    · rw [if_neg cw]
      refine ⟨by omega, by rw [u _ _ _ _ (by omega)]; exact a2, a3.cg (u _ _ _ _ (by omega)) (u _ _ _ _ (by omega)), fun k hk => (a4 k hk).mono (Nat.le_refl _) (by omega), a5, a6.cg (fun q hq => u _ _ _ _ (by omega)), ?_⟩
      rw [u _ _ 6 _ (by omega), u _ _ 7 _ (by omega), u _ _ 8 _ (by omega), u _ _ 10 _ (by omega), va_up_self, a7, show l + (nm - i) = l + (nm - (i + 1)) + 1 by omega, ← nI_add]
      ac_rfl
  | some k =>
    dsimp only
    by_cases cl : bt k 1 = 0 ∧ ¬ bt k 2 = 0
    · rw [if_pos cl]
      have e0 : ∀ q, q ≠ 7 → q ≠ 8 → va_up (va_up sc 8 (sc 8 + nI 1)) 7 (sc 7 + nI 1) q = sc q := fun q q1 q2 => by rw [u _ _ _ _ q1, u _ _ _ _ q2]
      refine ⟨by omega, by rw [e0 _ (by omega) (by omega)]; exact a2, a3.cg (e0 _ (by omega) (by omega)) (e0 _ (by omega) (by omega)), hbt k hh, sp_fl_sk a5, a6.cg (fun q hq => e0 _ (by omega) (by omega)), ?_⟩
      rw [e0 6 (by omega) (by omega), e0 9 (by omega) (by omega), e0 10 (by omega) (by omega), va_up_self, u _ _ 8 _ (by omega), va_up_self, show l + 1 + (nm - (i + 1)) = l + (nm - i) by omega, ← Int32.add_assoc, a7]
      ac_rfl
    · rw [if_neg cl]
      refine ⟨by omega, by rw [u _ _ _ _ (by omega)]; exact a2, a3.cg (u _ _ _ _ (by omega)) (u _ _ _ _ (by omega)), hbt k hh, sp_fl_sk a5, a6.cg (fun q hq => u _ _ _ _ (by omega)), ?_⟩
      rw [u _ _ 6 _ (by omega), u _ _ 7 _ (by omega), u _ _ 9 _ (by omega), u _ _ 10 _ (by omega), va_up_self, a7, show l + (nm - i) = l + (nm - (i + 1)) + 1 by omega, ← nI_add]
      ac_rfl
theorem zk_lp {s N0 nb nm p c w : Nat} {mb : Nat → Nat} (hp : p ≤ 999) : ∀ (d i : Nat) (S : mz_S), i + d = nm → zk_S s N0 nb nm i S → zk_S s N0 nb nm nm (sp_lp p c w nb mb d i S) := by
  intro d
  induction d with
  | zero =>
    intro i S hid h
    have : i = nm := by omega
    subst this
    exact h
  | succ d ih =>
    intro i S hid h
    obtain ⟨l, ms, sc, bt, sh⟩ := S
    exact ih (i + 1) _ (by omega) (zk_one _ hp (by omega) h)
theorem zi_sec {s : Nat} {A : mz_A} (hW : zz_WF A) (h : zk_iv s A) : zk_iv (s + 1) (sq_sec A).1 := by
  obtain ⟨p, sl, lo, nb, nm, mb, ms, sc, bt⟩ := A
  obtain ⟨⟨w1, w2, w3, w4, w5⟩, x1, x2, x3, x4, x5⟩ := hW
  obtain ⟨a1, a2, a3, a4, a5⟩ := h
  have u : ∀ (j : Nat), j ≠ 0 → va_up sc 0 (sc 0 + nI 1) j = sc j := fun j hj => va_up_ne _ _ hj
  have s0 : va_up sc 0 (sc 0 + nI 1) 0 = nI (s + 1) := by rw [va_up_self, a1, zn_succ]
  unfold sq_sec
  dsimp only
  by_cases cc : sp_cs sl lo < 6
  · rw [if_pos cc]
    have h0 : zk_S (s + 1) (12 * s) nb nm 0 (0, ms, va_up sc 0 (sc 0 + nI 1), bt, 0) := ⟨Nat.le_refl _, s0, a2.cg (u _ (by omega)) (u _ (by omega)), fun k hk => (a3 k hk).mono (by omega) (by omega), x5, a4.cg (fun q hq => u q (by omega)), by rw [u _ (by omega), u _ (by omega), u _ (by omega), u _ (by omega), u _ (by omega), Nat.zero_add, Nat.sub_zero]; exact a5⟩
    have h1 := zk_lp (p := p) (c := sp_cs sl lo) (w := sp_w (sp_cs sl lo)) (mb := mb) w1 nm 0 _ (by omega) h0
    generalize sp_lp p (sp_cs sl lo) (sp_w (sp_cs sl lo)) nb mb nm 0 (0, ms, va_up sc 0 (sc 0 + nI 1), bt, 0) = S at h1
    obtain ⟨l, ms2, sc2, bt2, sh2⟩ := S
    obtain ⟨b1, b2, b3, b4, b5, b6, b7⟩ := h1
    refine ⟨b2, b3, fun k hk => (b4 k hk).mono (Nat.le_refl _) (by omega), b6, ?_⟩
    rw [Nat.sub_self, Nat.add_zero] at b7
    exact b7
  · rw [if_neg cc]
    exact ⟨s0, a2.cg (u _ (by omega)) (u _ (by omega)), fun k hk => (a3 k hk).mono (by omega) (by omega), a4.cg (fun q hq => u q (by omega)), by rw [u _ (by omega), u _ (by omega), u _ (by omega), u _ (by omega), u _ (by omega)]; exact a5⟩
theorem zi_it : ∀ (n s : Nat) (A : mz_A), zz_WF A → zk_iv s A → zk_iv (s + n) (sp_it n A).1 := by
  intro n
  induction n with
  | zero => intro s A _ h; exact h
  | succ n ih =>
    intro s A hW h
    have := ih (s + 1) (sq_sec A).1 (zw_sec hW) (zi_sec hW h)
    rw [show s + 1 + n = s + (n + 1) by omega] at this
    exact this

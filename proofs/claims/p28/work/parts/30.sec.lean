/-! one second in the class -/
theorem zn_subT {m w : Nat} (hm : m ≤ 99999) (hw : w ≤ 99999) : (nI m - nI w).toInt = (m : Int) - (w : Int) := by
  rw [Int32.toInt_sub, nI_toInt (by omega), nI_toInt (by omega), Int.bmod_eq_of_le (by omega) (by omega)]
theorem zn_ltsub {g m w : Nat} (hg : g ≤ 99999) (hm : m ≤ 99999) (hw : w ≤ 99999) : (nI g < nI m - nI w) = (g + w < m) := by
  apply propext
  rw [Int32.lt_iff_toInt_lt, zn_subT hm hw, nI_toInt (by omega)]
  omega
theorem sp_sb_sc2 {p c : Nat} {sc sd : Nat → Int32} {g : Nat} {t : Nat → Int32} (h : ∀ q, (q = 0 ∨ 13 ≤ q) → sc q = sd q) : sp_sb p c sc g t = sp_sb p c sd g t := by
  funext j
  unfold sp_sb
  rw [h 0 (by omega), h (13 + 2 * sp_lay (sp_dep (p - g) c)) (by omega), h (14 + 2 * sp_lay (sp_dep (p - g) c)) (by omega)]
theorem zz_cb.s3 {f : Nat → Int32} {g : Nat} {t : Nat → Int32} (h : zz_cb f g t) (v : Int32) : zz_cb (va_up f 2 v) g (va_up t 3 v) := by
  obtain ⟨g0, g1, g2, g3, g4, g5⟩ := h
  have e : ∀ k, k ≠ 2 → va_up f 2 v k = f k := fun k hk => va_up_ne _ _ hk
  have d : ∀ k, k ≠ 3 → va_up t 3 v k = t k := fun k hk => va_up_ne _ _ hk
  refine ⟨?_, ?_, ?_, ?_, ?_, fun h1 => ?_⟩
  · rw [e _ (by omega)]; exact g0
  · rw [e _ (by omega), d _ (by omega)]; exact g1
  · rw [va_up_self, va_up_self]
  · rw [e _ (by omega), d _ (by omega)]; exact g3
  · rw [e _ (by omega), d _ (by omega)]; exact g4
  · rw [d _ (by omega)] at h1
    rw [e 5 (by omega), e 6 (by omega), e 7 (by omega), e 8 (by omega), e 9 (by omega), e 10 (by omega), d 5 (by omega), d 9 (by omega), d 10 (by omega), d 6 (by omega), d 7 (by omega), d 8 (by omega)]
    exact g5 h1
theorem zz_cb.s2 {f : Nat → Int32} {g : Nat} {t : Nat → Int32} (h : zz_cb f g t) (v : Int32) : zz_cb (va_up f 1 v) g (va_up t 2 v) := by
  obtain ⟨g0, g1, g2, g3, g4, g5⟩ := h
  have e : ∀ k, k ≠ 1 → va_up f 1 v k = f k := fun k hk => va_up_ne _ _ hk
  have d : ∀ k, k ≠ 2 → va_up t 2 v k = t k := fun k hk => va_up_ne _ _ hk
  refine ⟨?_, ?_, ?_, ?_, ?_, fun h1 => ?_⟩
  · rw [e _ (by omega)]; exact g0
  · rw [va_up_self, va_up_self]
  · rw [e _ (by omega), d _ (by omega)]; exact g2
  · rw [e _ (by omega), d _ (by omega)]; exact g3
  · rw [e _ (by omega), d _ (by omega)]; exact g4
  · rw [d _ (by omega)] at h1
    rw [e 5 (by omega), e 6 (by omega), e 7 (by omega), e 8 (by omega), e 9 (by omega), e 10 (by omega), d 5 (by omega), d 9 (by omega), d 10 (by omega), d 6 (by omega), d 7 (by omega), d 8 (by omega)]
    exact g5 h1
/-- the bottle that a messenger strikes on its way from m to m - w -/
def sp_hit (p m w : Nat) (mb : Nat → Nat) : Nat → Option Nat
  | 0 => none
  | n + 1 => if mb n < m ∧ m ≤ mb n + w ∧ mb n < p then some n else sp_hit p m w mb n
theorem sp_hit_some {p m w : Nat} {mb : Nat → Nat} : ∀ {n k : Nat}, sp_hit p m w mb n = some k → k < n ∧ mb k < m ∧ m ≤ mb k + w ∧ mb k < p ∧ ∀ j, k < j → j < n → ¬ (mb j < m ∧ m ≤ mb j + w ∧ mb j < p) := by
  intro n
  induction n with
  | zero => intro k h; cases h
  | succ n ih =>
    intro k h
    unfold sp_hit at h
    by_cases c : mb n < m ∧ m ≤ mb n + w ∧ mb n < p
    · rw [if_pos c] at h
      cases h
      exact ⟨by omega, c.1, c.2.1, c.2.2, fun j h1 h2 => by omega⟩
    · rw [if_neg c] at h
      obtain ⟨a1, a2, a3, a4, a5⟩ := ih h
      refine ⟨by omega, a2, a3, a4, fun j h1 h2 => ?_⟩
      by_cases hj : j = n
      · subst hj
        exact c
      · exact a5 j h1 (by omega)
theorem sp_hit_none {p m w : Nat} {mb : Nat → Nat} : ∀ {n : Nat}, sp_hit p m w mb n = none → ∀ j, j < n → ¬ (mb j < m ∧ m ≤ mb j + w ∧ mb j < p) := by
  intro n
  induction n with
  | zero => intro h j hj; omega
  | succ n ih =>
    intro h j hj
    unfold sp_hit at h
    by_cases c : mb n < m ∧ m ≤ mb n + w ∧ mb n < p
    · rw [if_pos c] at h
      cases h
    · rw [if_neg c] at h
      by_cases e : j = n
      · subst e
        exact c
      · exact ih h j (by omega)
theorem sp_hit_no {p m w : Nat} {mb : Nat → Nat} : ∀ {n : Nat}, (∀ j, j < n → ¬ (mb j < m ∧ m ≤ mb j + w ∧ mb j < p)) → sp_hit p m w mb n = none := by
  intro n
  induction n with
  | zero => intro _; rfl
  | succ n ih =>
    intro h
    unfold sp_hit
    rw [if_neg (h n (by omega))]
    exact ih (fun j hj => h j (by omega))
/-- what a strike makes of a bottle -/
def sp_sk (p c : Nat) (sc : Nat → Int32) (g : Nat) (t : Nat → Int32) : Nat → Int32 := if t 1 = 0 then (if t 2 = 0 then sp_sb p c sc g (va_up t 3 (t 3 + nI 1)) else va_up (sp_sb p c sc g (va_up t 3 (t 3 + nI 1))) 2 0) else va_up t 3 (t 3 + nI 1)
abbrev mz_S : Type := Nat × (Nat → Nat) × (Nat → Int32) × (Nat → Nat → Int32) × Nat
def sp_one (p c w nb : Nat) (mb : Nat → Nat) (m : Nat) : mz_S → mz_S
  | (l, ms, sc, bt, sh) => match sp_hit p m w mb nb with
    | none => if w < m then (l + 1, va_up ms l (m - w), sc, bt, sh) else (l, ms, va_up sc 9 (sc 9 + nI 1), bt, sh)
    | some k => if bt k 1 = 0 ∧ ¬ bt k 2 = 0 then (l + 1, va_up ms l (mb k), va_up (va_up sc 8 (sc 8 + nI 1)) 7 (sc 7 + nI 1), va_up bt k (sp_sk p c sc (mb k) (bt k)), sh + 1) else (l, ms, va_up sc 8 (sc 8 + nI 1), va_up bt k (sp_sk p c sc (mb k) (bt k)), if bt k 1 = 0 then sh + 1 else sh)
def sp_lp (p c w nb : Nat) (mb : Nat → Nat) : Nat → Nat → mz_S → mz_S
  | 0, _, S => S
  | d + 1, i, S => sp_lp p c w nb mb d (i + 1) (sp_one p c w nb mb (S.2.1 i) S)
def sq_sec : mz_A → mz_A × Nat
  | (p, sl, lo, nb, nm, mb, ms, sc, bt) => if sp_cs sl lo < 6 then ((p, sl, lo, nb, (sp_lp p (sp_cs sl lo) (sp_w (sp_cs sl lo)) nb mb nm 0 (0, ms, va_up sc 0 (sc 0 + nI 1), bt, 0)).1, mb, (sp_lp p (sp_cs sl lo) (sp_w (sp_cs sl lo)) nb mb nm 0 (0, ms, va_up sc 0 (sc 0 + nI 1), bt, 0)).2.1, (sp_lp p (sp_cs sl lo) (sp_w (sp_cs sl lo)) nb mb nm 0 (0, ms, va_up sc 0 (sc 0 + nI 1), bt, 0)).2.2.1, (sp_lp p (sp_cs sl lo) (sp_w (sp_cs sl lo)) nb mb nm 0 (0, ms, va_up sc 0 (sc 0 + nI 1), bt, 0)).2.2.2.1), (sp_lp p (sp_cs sl lo) (sp_w (sp_cs sl lo)) nb mb nm 0 (0, ms, va_up sc 0 (sc 0 + nI 1), bt, 0)).2.2.2.2) else ((p, sl, lo, nb, nm, mb, ms, va_up sc 0 (sc 0 + nI 1), bt), 0)
theorem zc_fbL {I : Nat → Nat → Int32} {R : Nat → Nat → Option Nat} {F a p sl lo nb nm m w : Nat} {mb ms : Nat → Nat} {sc : Nat → Int32} {bt : Nat → Nat → Int32} (hC : zz_CS I R a (p, sl, lo, nb, nm, mb, ms, sc, bt)) (hR : zz_RW R a) (hn : nb ≤ 10) (hp : p ≤ 999) (hmb : ∀ k, k < nb → mb k ≤ 999) (hm : m ≤ 999) (hw : w ≤ 999) : ∀ (n i : Nat), i ≤ nb → i < n → mi_X5_firstBottleBetween_L7 F n I R a (nI m) (nI m - nI w) (nI i + (-1)) = some ((sp_hit p m w mb i).map (zz_bp R a)) := by
  intro n
  induction n with
  | zero => intro i _ h; omega
  | succ n ih =>
    intro i hi hin
    show mi_X5_firstBottleBetween_B7 _ F I R _ _ _ _ = _
    obtain ⟨⟨h0, -, -, h3, -⟩, -, -, hb⟩ := hC
    unfold mi_X5_firstBottleBetween_B7
    cases i with
    | zero =>
      rw [if_pos zn_m10]
      rfl
    | succ i =>
      have hi2 : i < nb := by omega
      have hg := hmb i hi2
      rw [zn_m1, Nat.add_sub_cancel, if_neg (show ¬ nI i < 0 from zl_nlt (b := 0) (by omega) (by omega)), zc_bottleAt hR h3 hn hi2, mz_ob, mz_oms, (hb i hi2).1, zc_inw h0 hp hg]
      unfold sp_hit
      have ihh := ih i (by omega) (by omega)
      by_cases c1 : mb i < m
      · rw [if_neg (zl_nle c1 (by omega))]
        by_cases c2 : m ≤ mb i + w
        · rw [if_neg (by rw [zn_ltsub (by omega) (by omega) (by omega)]; omega)]
          by_cases c3 : mb i < p
          · rw [if_neg (show ¬ p ≤ mb i by omega), if_neg (show ¬ (1 : Int32) = 0 by decide), if_pos (show mb i < m ∧ m ≤ mb i + w ∧ mb i < p from ⟨c1, c2, c3⟩)]
            rfl
          · rw [if_pos (show p ≤ mb i by omega), if_pos rfl, if_neg (show ¬ (mb i < m ∧ m ≤ mb i + w ∧ mb i < p) from fun q => c3 q.2.2)]
            exact ihh
        · rw [if_pos (by rw [zn_ltsub (by omega) (by omega) (by omega)]; omega), if_neg (show ¬ (mb i < m ∧ m ≤ mb i + w ∧ mb i < p) from fun q => c2 q.2.1)]
          exact ihh
      · rw [if_pos (zl_le (by omega) (by omega)), if_neg (show ¬ (mb i < m ∧ m ≤ mb i + w ∧ mb i < p) from fun q => c1 q.1)]
        exact ihh
theorem zc_strike {I : Nat → Nat → Int32} {R : Nat → Nat → Option Nat} {a p sl lo nb nm k : Nat} {mb ms : Nat → Nat} {sc : Nat → Int32} {bt : Nat → Nat → Int32} (hC : zz_CS I R a (p, sl, lo, nb, nm, mb, ms, sc, bt)) (hR : zz_RW R a) (hp : p ≤ 999) (hs : sl ≤ 6) (hl : lo ≤ 1) (hn : nb ≤ 10) (hk : k < nb) (hkp : mb k < p) : ∃ I1, mi_X5_strike I a (zz_bp R a k) = some (I1, if bt k 1 = 0 ∧ ¬ bt k 2 = 0 then 1 else 0) ∧ zz_fr a I I1 ∧ zz_CS I1 R a (p, sl, lo, nb, nm, mb, ms, if bt k 1 = 0 ∧ ¬ bt k 2 = 0 then va_up sc 7 (sc 7 + nI 1) else sc, va_up bt k (sp_sk p (sp_cs sl lo) sc (mb k) (bt k))) := by
  have hcb := hC.2.2.2 k hk
  obtain ⟨q1, q2⟩ := zu_b (I1 := mc_u I (zz_bp R a k) 2 (bt k 3 + nI 1)) (t := va_up (bt k) 3 (bt k 3 + nI 1)) hC hR hn hk (fun x hx => mz_ux _ hx) (by rw [mz_up]; exact hcb.s3 _)
  unfold mi_X5_strike
  simp only [mz_bn]
  rw [show I (zz_bp R a k) 2 + 1 = bt k 3 + nI 1 by rw [hcb.2.2.1]; rfl]
  generalize mc_u I (zz_bp R a k) 2 (bt k 3 + nI 1) = I2 at q1 q2
  have hcb2 := q1.2.2.2 k hk
  rw [va_up_self] at hcb2
  rw [show I2 (zz_bp R a k) 3 = bt k 1 by rw [hcb2.2.2.2.1, va_up_ne _ _ (by omega)]]
  unfold sp_sk
  by_cases c1 : bt k 1 = 0
  · rw [if_pos c1, if_pos c1]
    obtain ⟨I3, e1, e2, e3, e4⟩ := zc_shutS q1 hR hp hs hl hn hk hkp
    rw [va_up_self, va_up_up] at e4
    rw [e1, mz_ob]
    have hcb3 := e4.2.2.2 k hk
    rw [va_up_self] at hcb3
    have ht2 : sp_sb p (sp_cs sl lo) sc (mb k) (va_up (bt k) 3 (bt k 3 + nI 1)) 2 = bt k 2 := rfl
    rw [show I3 (zz_bp R a k) 1 = bt k 2 by rw [hcb3.2.1]; exact ht2]
    by_cases c2 : bt k 2 = 0
    · rw [if_pos c2, if_neg (fun q => q.2 c2), if_neg (fun q => q.2 c2), if_pos c2]
      exact ⟨I3, rfl, q2.trans e2, e4⟩
    · rw [if_neg c2, if_pos ⟨c1, c2⟩, if_pos ⟨c1, c2⟩, if_neg c2]
      obtain ⟨g1, g2⟩ := zu_b (I1 := mc_u I3 (zz_bp R a k) 1 0) (t := va_up (sp_sb p (sp_cs sl lo) sc (mb k) (va_up (bt k) 3 (bt k 3 + nI 1))) 2 0) e4 hR hn hk (fun x hx => mz_ux _ hx) (by rw [mz_up]; exact hcb3.s2 _)
      rw [va_up_up] at g1
      generalize mc_u I3 (zz_bp R a k) 1 0 = I4 at g1 g2
      rw [show I4 (a + 5) 3 + 1 = sc 7 + nI 1 by rw [g1.1.2.2.2.2.2.2.2.2.2.1]; rfl]
      exact ⟨_, rfl, ((q2.trans e2).trans g2).trans (zu_fr (by omega) (by omega)), zu_s7 g1 hR hn _⟩
  · rw [if_neg c1, if_neg c1, if_neg (fun q => c1 q.1), if_neg (fun q => c1 q.1)]
    exact ⟨I2, rfl, q2, q1⟩
theorem sp_sk_sc {p c : Nat} {sc sd : Nat → Int32} {g : Nat} {t : Nat → Int32} (h : ∀ q, (q = 0 ∨ 13 ≤ q) → sc q = sd q) : sp_sk p c sc g t = sp_sk p c sd g t := by
  unfold sp_sk
  rw [sp_sb_sc2 h]
theorem sp_w_le (c : Nat) : 1 ≤ sp_w c ∧ sp_w c ≤ 5 := by
  unfold sp_w
  split <;> omega
theorem zc_secL {R : Nat → Nat → Option Nat} {F a p sl lo nb nm : Nat} {mb : Nat → Nat} (hF : 20 ≤ F) (hR : zz_RW R a) (hp : p ≤ 999) (hs : sl ≤ 6) (hl : lo ≤ 1) (hn : nb ≤ 10) (hm : nm ≤ 12) (hmb : ∀ k, k < nb → mb k ≤ 999) : ∀ (n d i l sh : Nat) (ms : Nat → Nat) (sc : Nat → Int32) (bt : Nat → Nat → Int32) (I : Nat → Nat → Int32), i + d = nm → d < n → l ≤ i → (∀ k, i ≤ k → k < nm → ms k ≤ 999) → zz_CS I R a (p, sl, lo, nb, nm, mb, ms, sc, bt) → ∃ I1, mi_X5_passOneSecond_L25 F n I R a (nI l) (nI i) = some I1 ∧ zz_fr a I I1 ∧ zz_CS I1 R a (p, sl, lo, nb, (sp_lp p (sp_cs sl lo) (sp_w (sp_cs sl lo)) nb mb d i (l, ms, sc, bt, sh)).1, mb, (sp_lp p (sp_cs sl lo) (sp_w (sp_cs sl lo)) nb mb d i (l, ms, sc, bt, sh)).2.1, (sp_lp p (sp_cs sl lo) (sp_w (sp_cs sl lo)) nb mb d i (l, ms, sc, bt, sh)).2.2.1, (sp_lp p (sp_cs sl lo) (sp_w (sp_cs sl lo)) nb mb d i (l, ms, sc, bt, sh)).2.2.2.1) := by
  intro n
  induction n with
  | zero => intro d i l sh ms sc bt I _ h; omega
  | succ n ih =>
    intro d i l sh ms sc bt I hid hdn hli hms hC
    show ∃ I1, mi_X5_passOneSecond_B25 _ F I R _ _ _ = some I1 ∧ _
    have hC' := hC
    obtain ⟨⟨h0, h1, h2, h3, h4, h5, h6, h7, h8, h9, h10, h11, h12⟩, hw, hmm, hb⟩ := hC'
    unfold mi_X5_passOneSecond_B25
    rw [h4]
    cases d with
    | zero =>
      rw [if_pos (zl_le (by omega) (by omega))]
      exact ⟨_, rfl, zu_fr (by omega) (by omega), zu_nm hC hR hn (fun k hk => by omega)⟩
    | succ d =>
      have hi : i < nm := by omega
      have hmi := hms i (Nat.le_refl _) hi
      have hww := sp_w_le (sp_cs sl lo)
      rw [if_neg (zl_nle hi (by omega)), zc_markAt (by omega), mz_ob, show I (a + 5 + 1) i = nI (ms i) from hmm i hi, zc_step h1 h2 hs hl]
      simp only [mz_bn]
      have hfb : mi_X5_firstBottleBetween F I R a (nI (ms i)) (nI (ms i) - nI (sp_w (sp_cs sl lo))) = some ((sp_hit p (ms i) (sp_w (sp_cs sl lo)) mb nb).map (zz_bp R a)) := by
        unfold mi_X5_firstBottleBetween
        rw [h3, zn_subm]
        exact zc_fbL hC hR hn hp hmb hmi (by omega) F nb (Nat.le_refl _) (by omega)
      rw [hfb, mz_ob]
      have e1 : ∀ x, nI x + 1 = nI (x + 1) := fun x => nI_add x 1
      unfold sp_lp sp_one
      dsimp only
      generalize hcc : sp_cs sl lo = c at *
      cases hh : sp_hit p (ms i) (sp_w c) mb nb with
      | none =>
        simp only [Option.map_none, mz_omn]
        by_cases c2 : sp_w c < ms i
        · rw [if_pos (show (0 : Int32) < nI (ms i) - nI (sp_w c) from (zn_ltsub (g := 0) (by omega) (by omega) (by omega)).mpr (by omega)), if_pos c2, zi_sub (by omega), zc_put (by omega), mz_ob]
          simp only [e1]
          have q := zu_ms hC hR hn l (ms i - sp_w c)
          obtain ⟨I1, g1, g2, g3⟩ := ih d (i + 1) (l + 1) sh _ sc bt _ (by omega) (by omega) (by omega) (fun k k1 k2 => by rw [va_up_ne _ _ (by omega)]; exact hms k (by omega) k2) q
          exact ⟨I1, g1, (zu_fr (by omega) (by omega)).trans g2, g3⟩
        · rw [if_neg (show ¬ (0 : Int32) < nI (ms i) - nI (sp_w c) from fun q => c2 (by have := (zn_ltsub (g := 0) (by omega) (by omega) (by omega)).mp q; omega)), if_neg c2, h11]
          simp only [e1]
          have q := zu_s9 hC hR hn (sc 9 + nI 1)
          obtain ⟨I1, g1, g2, g3⟩ := ih d (i + 1) l sh ms _ bt _ (by omega) (by omega) (by omega) (fun k k1 k2 => hms k (by omega) k2) q
          exact ⟨I1, g1, (zu_fr (by omega) (by omega)).trans g2, g3⟩
      | some k =>
        obtain ⟨k1, k2, k3, k4, -⟩ := sp_hit_some hh
        simp only [Option.map_some, mz_oms]
        rw [h10]
        have q := zu_s8 hC hR hn (sc 8 + nI 1)
        obtain ⟨I2, s1, s2, s3⟩ := zc_strike q hR hp hs hl hn k1 k4
        rw [show sc 8 + 1 = sc 8 + nI 1 from rfl, s1, mz_ob2]
        rw [hcc] at s3
        have esk : sp_sk p c (va_up sc 8 (sc 8 + nI 1)) (mb k) (bt k) = sp_sk p c sc (mb k) (bt k) := sp_sk_sc (fun j hj => va_up_ne _ _ (by omega))
        rw [esk] at s3
        by_cases cl : bt k 1 = 0 ∧ ¬ bt k 2 = 0
        · rw [if_pos cl, if_pos cl]
          rw [if_pos cl, va_up_ne _ _ (show 7 ≠ 8 by omega)] at s3
          rw [if_neg (show ¬ (1 : Int32) = 0 by decide), show I2 (zz_bp R a k) 0 = nI (mb k) from (s3.2.2.2 k k1).1, zc_put (by omega), mz_ob]
          simp only [e1]
          have q2 := zu_ms s3 hR hn l (mb k)
          obtain ⟨I1, g1, g2, g3⟩ := ih d (i + 1) (l + 1) (sh + 1) _ _ _ _ (by omega) (by omega) (by omega) (fun k k1 k2 => by rw [va_up_ne _ _ (by omega)]; exact hms k (by omega) k2) q2
          exact ⟨I1, g1, (((zu_fr (by omega) (by omega)).trans s2).trans (zu_fr (by omega) (by omega))).trans g2, g3⟩
        · rw [if_neg cl, if_neg cl]
          rw [if_neg cl] at s3
          rw [if_pos rfl]
          simp only [e1]
          obtain ⟨I1, g1, g2, g3⟩ := ih d (i + 1) l (if bt k 1 = 0 then sh + 1 else sh) ms _ _ _ (by omega) (by omega) (by omega) (fun k k1 k2 => hms k (by omega) k2) s3
          exact ⟨I1, g1, ((zu_fr (by omega) (by omega)).trans s2).trans g2, g3⟩
theorem zc_sec {I : Nat → Nat → Int32} {R : Nat → Nat → Option Nat} {a : Nat} {A : mz_A} {F : Nat} (hF : 20 ≤ F) (hC : zz_CS I R a A) (hR : zz_RW R a) (hW : zz_WF A) : ∃ I1, mi_X5_passOneSecond F I R a = some I1 ∧ zz_fr a I I1 ∧ zz_CS I1 R a (sq_sec A).1 := by
  obtain ⟨p, sl, lo, nb, nm, mb, ms, sc, bt⟩ := A
  obtain ⟨⟨w1, w2, w3, w4, w5⟩, x1, x2, x3, x4, x5⟩ := hW
  unfold mi_X5_passOneSecond sq_sec
  dsimp only
  have q := zu_s0 hC hR w4 (sc 0 + nI 1)
  simp only [mz_bn]
  rw [show I a 5 + 1 = sc 0 + nI 1 by rw [hC.1.2.2.2.2.2.1]; rfl]
  generalize hI2 : mc_u I a 5 (sc 0 + nI 1) = I2 at q
  have f2 : zz_fr a I I2 := by rw [← hI2]; exact zu_fr (by omega) (by omega)
  rw [zc_sticking q.1.2.1 q.1.2.2.1 w2 w3]
  by_cases c : sp_cs sl lo < 6
  · rw [if_pos c, if_pos rfl, if_pos c]
    obtain ⟨I1, g1, g2, g3⟩ := zc_secL (F := F) hF hR w1 w2 w3 w4 w5 x1 F nm 0 0 0 ms _ bt I2 (by omega) (by omega) (by omega) (fun k k1 k2 => by have := (x3 k k2).2; omega) q
    exact ⟨I1, g1, f2.trans g2, g3⟩
  · rw [if_neg c, if_neg (show ¬ (1 : Int32) = 0 by decide), if_neg c]
    exact ⟨I2, rfl, f2, q⟩


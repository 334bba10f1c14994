/-! one second in the reference: the whole -/
theorem zr_clearL {F b p sl lo nb l : Nat} {mb ms : Nat → Nat} {sc : Nat → Int32} {bt : Nat → Nat → Int32} {v : Int32} (hb0 : b ≤ 1239) (hn : nb ≤ 10) (hl : l ≤ 12) : ∀ (n x : Nat) (fl : Nat → Int32) (J : Nat → Nat → Int32), x ≤ l → l - x < n → (∀ k, k < x → fl k = nI 0) → zz_RT J b fl (p, sl, lo, nb, l, mb, ms, sc, bt) → ∃ J1, mi_X9_second_L216 F n J (nI b) v (nI x) = some (J1, v) ∧ zz_frJ b J J1 ∧ zz_RS J1 b (p, sl, lo, nb, l, mb, ms, sc, bt) := by
  intro n
  induction n with
  | zero => intro x _ _ _ h; omega
  | succ n ih =>
    intro x fl J hx hxn hfl hC
    show ∃ J1, mi_X9_second_B216 _ F J _ _ _ = _ ∧ _
    have h5 : J 1 (b + 5) = nI l := hC.1.2.2.2.2.2
    have hm := hC.2.2.1
    unfold mi_X9_second_B216 mi_X9_messengerAt
    by_cases c : x = l
    · subst c
      simp (disch := omega) only [zi_lit, zi_add, zi_mul, zi_le, zi_lt, zi_cl, Nat.not_lt_zero, zn_nle, zn_yle, zn_nlt, zn_ylt, if_false, if_true, or_false, false_or, mz_bn, h5]
      exact ⟨J, rfl, zz_frJ.rfl, zt_mid hC hn (fun _ _ _ _ => rfl) h5 (fun k hk => ⟨(hm k hk).1, (hm k hk).2.trans (hfl k hk)⟩)⟩
    · simp (disch := omega) only [zi_lit, zi_add, zi_mul, zi_le, zi_lt, zi_cl, Nat.not_lt_zero, zn_nle, zn_yle, zn_nlt, zn_ylt, if_false, if_true, or_false, false_or, mz_bn, h5]
      have q : zz_RT (mc_u J 1 (b + 153 + 2 * x + 1) (nI 0)) b (va_up fl x (nI 0)) (p, sl, lo, nb, l, mb, ms, sc, bt) := by
        refine zt_mid hC hn (fun i i1 i2 i3 => by rw [mz_u, if_neg (by omega)]) (by rw [mz_u, if_neg (by omega)]; exact h5) (fun k hk => ⟨?_, ?_⟩)
        · rw [mz_u, if_neg (by omega)]
          exact (hm k hk).1
        · rw [mz_u]
          by_cases e : k = x
          · subst e
            rw [if_pos ⟨rfl, by omega⟩, va_up_self]
          · rw [if_neg (by omega), va_up_ne _ _ e]
            exact (hm k hk).2
      obtain ⟨J1, e1, e2, e3⟩ := ih (x + 1) _ _ (by omega) (by omega) (fun k hk => by
        by_cases e : k = x
        · subst e
          rw [va_up_self]
        · rw [va_up_ne _ _ e]
          exact hfl k (by omega)) q
      refine ⟨J1, e1, zz_frJ.trans ⟨fun y hy => mz_ux _ hy, fun i hi => by rw [mz_u, if_neg (by omega)]⟩ e2, e3⟩
theorem zr_secL {F b p sl lo nb nm : Nat} {mb : Nat → Nat} (hF : 200 ≤ F) (hb0 : b ≤ 1239) (hp : p ≤ 999) (hs0 : sl ≤ 6) (hlo : lo ≤ 1) (hn : nb ≤ 10) (hm : nm ≤ 12) (hmb : ∀ k, k < nb → mb k ≤ 999) (hsb : ∀ k j, k < j → j < nb → mb k + 5 ≤ mb j) : ∀ (n d i l sh M : Nat) (ms msC : Nat → Nat) (sc : Nat → Int32) (bt : Nat → Nat → Int32) (fl : Nat → Int32) (J : Nat → Nat → Int32), i + d = nm → d < n → sp_inv p (sp_w (sp_cs sl lo)) nb nm i M mb (l, ms, sc, bt, sh) → (∀ k, k < l → msC k = ms k) → (∀ q, q < d → msC (l + q) = ms (i + q)) → (∀ k, l ≤ k → k < l + d → fl k = nI 0) → zz_RT J b fl (p, sl, lo, nb, l + d, mb, msC, sc, bt) → ∃ J1, mi_X9_second_L45 F n J (nI b) (nI (sp_w (sp_cs sl lo))) (nI sh) (nI l) = some (J1, nI (sp_lp p (sp_cs sl lo) (sp_w (sp_cs sl lo)) nb mb d i (l, ms, sc, bt, sh)).2.2.2.2) ∧ zz_frJ b J J1 ∧ zz_RS J1 b (p, sl, lo, nb, (sp_lp p (sp_cs sl lo) (sp_w (sp_cs sl lo)) nb mb d i (l, ms, sc, bt, sh)).1, mb, (sp_lp p (sp_cs sl lo) (sp_w (sp_cs sl lo)) nb mb d i (l, ms, sc, bt, sh)).2.1, (sp_lp p (sp_cs sl lo) (sp_w (sp_cs sl lo)) nb mb d i (l, ms, sc, bt, sh)).2.2.1, (sp_lp p (sp_cs sl lo) (sp_w (sp_cs sl lo)) nb mb d i (l, ms, sc, bt, sh)).2.2.2.1) := by
  have hcc0 := sp_cs_le sl lo
  have hww := sp_w_le (sp_cs sl lo)
  intro n
  induction n with
  | zero => intro d _ _ _ _ _ _ _ _ _ _ _ h; omega
  | succ n ih =>
    intro d i l sh M ms msC sc bt fl J hid hdn hinv hlow hup hfl hC
    show ∃ J1, mi_X9_second_B45 _ F J _ _ _ _ = _ ∧ _
    have h5 : J 1 (b + 5) = nI (l + d) := hC.1.2.2.2.2.2
    have hmm := hC.2.2.1
    have hli : l ≤ i := hinv.1
    unfold mi_X9_second_B45 mi_X9_messengerAt
    cases d with
    | zero =>
      simp (disch := omega) only [zi_lit, zi_add, zi_mul, zi_le, zi_lt, zi_cl, Nat.not_lt_zero, zn_nle, zn_yle, zn_nlt, zn_ylt, if_false, if_true, or_false, false_or, mz_bn, h5]
      have q : zz_RT J b fl (p, sl, lo, nb, l, mb, ms, sc, bt) := zt_mid hC hn (fun _ _ _ _ => rfl) h5 (fun k hk => by rw [← hlow k hk]; exact hmm k (by omega))
      obtain ⟨J1, e1, e2, e3⟩ := zr_clearL (F := F) (v := nI sh) hb0 hn (by omega) F 0 fl J (Nat.zero_le _) (by omega) (fun k hk => by omega) q
      exact ⟨J1, e1, e2, e3⟩
    | succ d =>
      obtain ⟨a1, a2, a3, a4, a5, a6, a7⟩ := id hinv
      have hi : i < nm := by omega
      have hMi := a6 i (Nat.le_refl _) hi
      have em : msC l = ms i := hup 0 (by omega)
      have g0 : J 1 (b + 153 + 2 * l) = nI (ms i) := by rw [(hmm l (by omega)).1, em]
      have g1 : J 1 (b + 153 + 2 * l + 1) = nI 0 := by rw [show b + 153 + 2 * l + 1 = b + 154 + 2 * l by omega, (hmm l (by omega)).2]; exact hfl l (Nat.le_refl _) (by omega)
      have hms9 : ∀ k, k < l + (d + 1) → msC k ≤ 999 := fun k hk => by
        by_cases e : k < l
        · rw [hlow k e]
          rcases a3 k e with q | ⟨j, j1, j2, j3, j4⟩ <;> omega
        · obtain ⟨q, rfl⟩ : ∃ q, k = l + q := ⟨k - l, by omega⟩
          rw [hup q (by omega)]
          have := (a6 (i + q) (by omega) (by omega)).2
          omega
      have hmet : mi_X9_met F J (nI b) (nI (ms i)) (nI (ms i) - nI (sp_w (sp_cs sl lo))) = some (mz_enc (sp_hit p (ms i) (sp_w (sp_cs sl lo)) mb nb)) := by
        unfold mi_X9_met
        exact zr_metL hb0 hC hn hp hmb (by omega) (by omega) F 0 (Nat.zero_le _) (by omega)
      simp (disch := omega) only [zi_lit, zi_add, zi_mul, zi_le, zi_lt, zi_cl, Nat.not_lt_zero, zn_nle, zn_yle, zn_nlt, zn_ylt, if_false, if_true, or_false, false_or, mz_bn, h5, g0, g1]
      rw [hmet, mz_ob, if_neg (show ¬ nI 0 = nI 1 by decide)]
      have hstep := sp_inv_step (c := sp_cs sl lo) hsb hi hinv
      unfold sp_lp
      unfold sp_one at hstep ⊢
      dsimp only at hstep ⊢
      cases hh : sp_hit p (ms i) (sp_w (sp_cs sl lo)) mb nb with
      | none =>
        rw [hh] at hstep
        dsimp only at hstep ⊢
        rw [if_pos (show mz_enc none = -nI 1005 from rfl)]
        by_cases c2 : sp_w (sp_cs sl lo) < ms i
        · rw [if_pos (show nI 0 < nI (ms i) - nI (sp_w (sp_cs sl lo)) by rw [zn_ltsub (by omega) (by omega) (by omega)]; omega), zi_sub (by omega)]
          rw [if_pos c2] at hstep ⊢
          have q : zz_RT (mc_u J 1 (b + 153 + 2 * l) (nI (ms i - sp_w (sp_cs sl lo)))) b fl (p, sl, lo, nb, l + (d + 1), mb, va_up msC l (ms i - sp_w (sp_cs sl lo)), sc, bt) := by
            refine zt_mid hC hn (fun j j1 j2 j3 => by rw [mz_u, if_neg (by omega)]) (by rw [mz_u, if_neg (by omega)]; exact h5) (fun k hk => ⟨?_, ?_⟩)
            · rw [mz_u]
              by_cases e : k = l
              · subst e
                rw [if_pos ⟨rfl, rfl⟩, va_up_self]
              · rw [if_neg (by omega), va_up_ne _ _ e]
                exact (hmm k hk).1
            · rw [mz_u, if_neg (by omega)]
              exact (hmm k hk).2
          rw [show l + (d + 1) = l + 1 + d by omega] at q
          obtain ⟨J1, e1, e2, e3⟩ := ih d (i + 1) (l + 1) sh _ _ _ sc bt fl _ (by omega) (by omega) hstep (fun k hk => by
            by_cases e : k = l
            · subst e
              rw [va_up_self, va_up_self]
            · rw [va_up_ne _ _ e, va_up_ne _ _ e]
              exact hlow k (by omega)) (fun r hr => by
            rw [va_up_ne _ _ (by omega), va_up_ne _ _ (by omega), show l + 1 + r = l + (r + 1) by omega, show i + 1 + r = i + (r + 1) by omega]
            exact hup _ (by omega)) (fun k k1 k2 => hfl k (by omega) (by omega)) q
          exact ⟨J1, e1, zz_frJ.trans ⟨fun y hy => mz_ux _ hy, fun j hj => by rw [mz_u, if_neg (by omega)]⟩ e2, e3⟩
        · rw [if_neg (show ¬ nI 0 < nI (ms i) - nI (sp_w (sp_cs sl lo)) by rw [zn_ltsub (by omega) (by omega) (by omega)]; omega)]
          rw [if_neg c2] at hstep ⊢
          obtain ⟨J2, r1, r2, r3⟩ := zr_removes hF hb0 hC hn (show l < l + (d + 1) by omega) (by omega)
          rw [r1, mz_ob]
          rw [show l + (d + 1) - 1 = l + d by omega] at r3
          obtain ⟨s1, s2⟩ := zv_sc r3 hn (by omega) (q := 9) (by omega) (by omega) (sc 9 + nI 1)
          rw [show J2 1 (b + 9) = sc 9 from r3.2.1 9 (by omega) (by omega)]
          obtain ⟨J1, e1, e2, e3⟩ := ih d (i + 1) l sh _ _ _ _ bt _ _ (by omega) (by omega) hstep (fun k hk => by rw [sp_del1 hk]; exact hlow k hk) (fun r hr => by
            rw [sp_del2 (by omega), show l + r + 1 = l + (r + 1) by omega, show i + 1 + r = i + (r + 1) by omega]
            exact hup _ (by omega)) (fun k k1 k2 => by rw [sp_del2 k1]; exact hfl _ (by omega) (by omega)) s1
          exact ⟨J1, e1, (r2.trans s2).trans e2, e3⟩
      | some k =>
        obtain ⟨k1, k2, k3, k4, -⟩ := sp_hit_some hh
        have hmk := hmb k k1
        rw [hh] at hstep
        dsimp only at hstep ⊢
        rw [if_neg (show ¬ mz_enc (some k) = -nI 1005 from mz_enc_no (by omega))]
        obtain ⟨J2, r1, r2, r3⟩ := zr_removes hF hb0 hC hn (show l < l + (d + 1) by omega) (by omega)
        rw [r1, mz_ob]
        rw [show l + (d + 1) - 1 = l + d by omega] at r3
        rw [show J2 1 (b + 5) = nI (l + d) from r3.1.2.2.2.2.2]
        have hlowd : ∀ j, j < l → sp_del msC l j = ms j := fun j hj => by rw [sp_del1 hj]; exact hlow j hj
        have hupd : ∀ q, q < d → sp_del msC l (l + q) = ms (i + 1 + q) := fun q hq => by
          rw [sp_del2 (by omega), show l + q + 1 = l + (q + 1) by omega, show i + 1 + q = i + (q + 1) by omega]
          exact hup _ (by omega)
        have hfld : ∀ j, l ≤ j → j < l + d → sp_del fl l j = nI 0 := fun j j1 j2 => by rw [sp_del2 j1]; exact hfl _ (by omega) (by omega)
        obtain ⟨J3, s1, s2, s3, s4⟩ := zr_strike hF hb0 r3 hp hs0 hlo hn (show l ≤ l + d by omega) (by omega) k1 hmk (fun j hj => by
          by_cases e : j < l
          · rw [sp_del1 e]
            exact hms9 j (by omega)
          · rw [sp_del2 (by omega)]
            exact hms9 _ (by omega)) a7 (fun j j1 j2 => by
          obtain ⟨q, rfl⟩ : ∃ q, j = l + q := ⟨j - l, by omega⟩
          rw [hupd q (by omega)]
          have := a5 i (i + 1 + q) (Nat.le_refl _) (by omega) (by omega)
          omega) (fun j hj => by
          rw [hlowd j hj]
          exact (sp_below hsb hMi.1 (a3 j hj)).1 k hh)
        rw [show mz_enc (some k) = nI k from rfl, s1, mz_ob2]
        by_cases cl : bt k 1 = 0 ∧ ¬ bt k 2 = 0
        · have s5 := s3 cl
          rw [if_pos cl] at hstep ⊢
          rw [if_pos cl.1, show J3 1 (b + 5) = nI (l + d + 1) from s5.1.2.2.2.2.2, zi_sub (by omega), show l + d + 1 - (l + d) = 1 by omega]
          rw [show mi_X9_flag 1 = nI 1 from rfl, zi_add, zi_add]
          rw [show l + d + 1 = l + 1 + d by omega] at s5
          obtain ⟨J1, e1, e2, e3⟩ := ih d (i + 1) (l + 1) (sh + 1) _ _ _ _ _ _ _ (by omega) (by omega) hstep (fun j hj => by
            by_cases e : j = l
            · subst e
              rw [va_up_self, sp_ins2]
            · rw [va_up_ne _ _ e, sp_ins1 (by omega)]
              exact hlowd j (by omega)) (fun q hq => by
            rw [sp_ins3 (by omega), va_up_ne _ _ (by omega), show l + 1 + q - 1 = l + q by omega]
            exact hupd q hq) (fun j j1 j2 => by
            rw [sp_ins3 (by omega)]
            exact hfld _ (by omega) (by omega)) s5
          exact ⟨J1, e1, (r2.trans s2).trans e2, e3⟩
        · have s5 := s4 cl
          rw [if_neg cl] at hstep ⊢
          rw [show J3 1 (b + 5) = nI (l + d) from s5.1.2.2.2.2.2, zi_sub (by omega), Nat.sub_self, zi_add, Nat.add_zero]
          have esh : nI sh + mi_X9_flag (if bt k 1 = 0 then 1 else 0) = nI (if bt k 1 = 0 then sh + 1 else sh) := by
            by_cases c1 : bt k 1 = 0
            · rw [if_pos c1, if_pos c1]
              exact nI_add sh 1
            · rw [if_neg c1, if_neg c1]
              exact nI_add sh 0
          rw [esh]
          obtain ⟨J1, e1, e2, e3⟩ := ih d (i + 1) l (if bt k 1 = 0 then sh + 1 else sh) _ _ _ _ _ _ _ (by omega) (by omega) hstep hlowd hupd hfld s5
          exact ⟨J1, e1, (r2.trans s2).trans e2, e3⟩
theorem zr_sec {J : Nat → Nat → Int32} {A : mz_A} {F b : Nat} (hF : 200 ≤ F) (hb0 : b ≤ 1239) (hC : zz_RS J b A) (hW : zz_WF A) : ∃ J1, mi_X9_second F J (nI b) = some (J1, nI (sq_sec A).2) ∧ zz_frJ b J J1 ∧ zz_RS J1 b (sq_sec A).1 := by
  obtain ⟨p, sl, lo, nb, nm, mb, ms, sc, bt⟩ := A
  obtain ⟨⟨w1, w2, w3, w4, w5⟩, x1, x2, x3, x4, x5⟩ := hW
  obtain ⟨q1, q2⟩ := zv_s0 hC w4 w5 (sc 0 + nI 1)
  have g0 : J 1 (b + 0) = sc 0 := hC.1.1
  have hcs := sp_cs_le sl lo
  unfold mi_X9_second sq_sec
  dsimp only
  simp (disch := omega) only [zi_lit, zi_add, zi_mul, zi_le, zi_lt, zi_cl, Nat.not_lt_zero, zn_nle, zn_yle, zn_nlt, zn_ylt, if_false, if_true, or_false, false_or, mz_bn, g0]
  rw [Nat.add_zero]
  generalize mc_u J 1 b (sc 0 + nI 1) = J2 at q1 q2
  rw [zr_counted hb0 q1.1.2.2.1 q1.1.2.2.2.1 w2 w3, mz_ob]
  have main : sp_cs sl lo < 6 → ∃ J1, mi_X9_second_L45 F F J2 (nI b) (nI (sp_w (sp_cs sl lo))) (nI 0) (nI 0) = some (J1, nI (sp_lp p (sp_cs sl lo) (sp_w (sp_cs sl lo)) nb mb nm 0 (0, ms, va_up sc 0 (sc 0 + nI 1), bt, 0)).2.2.2.2) ∧ zz_frJ b J J1 ∧ zz_RS J1 b (p, sl, lo, nb, (sp_lp p (sp_cs sl lo) (sp_w (sp_cs sl lo)) nb mb nm 0 (0, ms, va_up sc 0 (sc 0 + nI 1), bt, 0)).1, mb, (sp_lp p (sp_cs sl lo) (sp_w (sp_cs sl lo)) nb mb nm 0 (0, ms, va_up sc 0 (sc 0 + nI 1), bt, 0)).2.1, (sp_lp p (sp_cs sl lo) (sp_w (sp_cs sl lo)) nb mb nm 0 (0, ms, va_up sc 0 (sc 0 + nI 1), bt, 0)).2.2.1, (sp_lp p (sp_cs sl lo) (sp_w (sp_cs sl lo)) nb mb nm 0 (0, ms, va_up sc 0 (sc 0 + nI 1), bt, 0)).2.2.2.1) := by
    intro c
    have h0 : sp_inv p (sp_w (sp_cs sl lo)) nb nm 0 0 mb (0, ms, va_up sc 0 (sc 0 + nI 1), bt, 0) := ⟨Nat.le_refl _, Nat.zero_le _, fun k hk => by omega, fun k j h1 h2 => by omega, fun k j h1 h2 h3 => x4 k j h2 h3, fun k h1 h2 => ⟨Nat.zero_le _, (x3 k h2).2⟩, x5⟩
    obtain ⟨J1, e1, e2, e3⟩ := zr_secL hF hb0 w1 w2 w3 w4 w5 x1 x2 F nm 0 0 0 0 ms ms (va_up sc 0 (sc 0 + nI 1)) bt (fun _ => nI 0) J2 (by omega) (by omega) h0 (fun k hk => by omega) (fun q hq => by rw [Nat.zero_add]) (fun k k1 k2 => rfl) (by rw [Nat.zero_add]; exact q1)
    exact ⟨J1, e1, q2.trans e2, e3⟩
  by_cases c : sp_cs sl lo < 6
  · rw [if_pos c, if_neg (show ¬ nI (sp_cs sl lo) = nI 6 from fun q => by have := (nI_eq (by omega) (by omega)).mp q; omega)]
    obtain ⟨J1, e1, e2, e3⟩ := main c
    refine ⟨J1, ?_, e2, e3⟩
    by_cases c4 : sp_cs sl lo ≤ 4
    · rw [if_pos (show nI (sp_cs sl lo) ≤ nI 4 from zl_le c4 (by omega)), show nI 5 - nI (sp_cs sl lo) = nI (sp_w (sp_cs sl lo)) by
        unfold sp_w
        rw [if_neg (by omega)]
        exact pk_sub (by omega)]
      exact e1
    · rw [if_neg (show ¬ nI (sp_cs sl lo) ≤ nI 4 from zl_nle (by omega) (by omega))]
      have e5 : sp_w (sp_cs sl lo) = 1 := by
        unfold sp_w
        rw [if_pos (by omega)]
      rw [e5] at e1 ⊢
      exact e1
  · rw [if_neg c, if_pos (show nI (sp_cs sl lo) = nI 6 by rw [show sp_cs sl lo = 6 by omega])]
    exact ⟨J2, rfl, q2, q1⟩

/-! shuts: bottles are shut when it was told, and no others -/
theorem zk_cmp (h : Int64) : lg_cmp h h = 0 := by simp [lg_cmp]
theorem zk_pass {n : Nat} {A : mz_A} (h1 : 1 ≤ n) (h2 : n ≤ 999) : sq_pass (nI n) A = if mz_s0 A + nI n ≤ 99999 then ((sp_it n A).1, nI (sp_it n A).2) else (A, -1003) := by
  unfold sq_pass
  rw [if_neg (fun q => q.elim (fun q => absurd q (zl_nlt (b := 1) h1 (by omega))) (fun q => absurd q (zl_nlt (a := 999) h2 (by omega)))), zi_cl (by omega)]
theorem zk_0le (n : Nat) (h : n < 2147483648) : (0 : Int32) ≤ nI n := zl_le (a := 0) (by omega) h
def zk_sw (A : mz_A) (n i : Nat) (v5 v6 : Int32) : Prop := v5 = -1005 ∨ ∃ k u, k < i ∧ v5 = nI k ∧ mz_bt A k 1 = 0 ∧ sp_un k 1100 A = some u ∧ u ≤ n ∧ v6 = mz_s0 A + nI u
section SHT
variable {I : Nat → Nat → Int32} {R : Nat → Nat → Option Nat} {A : mz_A} {F ns n : Nat} {AH : Nat → mz_A}
theorem zk_s335 {B : mz_A} {m : Nat} (hF : 1100 ≤ F) (h : zl_R I R B (m + 1) AH) (hA : AH m = A) : ∃ I1 ns1 AH1, mi_L_shuts_J335 F I R (sv_pr A) 1 = some (I1, R, 1) ∧ zl_R I1 R A ns1 AH1 := by
  have h4 := h.ns4
  obtain ⟨I1, a, b⟩ := zl_undo hF h
  rw [hA] at b
  unfold mi_L_shuts_J335
  rw [if_neg zk_10, a, mz_ob2, if_neg (show ¬ nI m < 0 from zl_nlt (b := 0) (by omega) (by omega)), b.print hF, mz_ob, zk_cmp, if_pos rfl]
  exact ⟨I1, m, AH, rfl, b⟩
theorem zk_s293 {m : Nat} (hF : 1100 ≤ F) (hW : zz_WF A) (hn : n ≤ 999) (h : zl_R I R (sp_it n A).1 (m + 1) AH) (hA : AH m = A) : ∃ I1 ns1 AH1, mi_L_shuts_J293 F I R (nI n) (sv_qt A) (sv_pr A) = some (I1, R, 1) ∧ zl_R I1 R A ns1 AH1 := by
  obtain ⟨I2, a, b⟩ := h.quiet hF
  have hq := zk_qt hW hn
  have last : ∀ s0 : Int32, s0 = sv_qt (sp_it n A).1 → ∃ I1 ns1 AH1, mi_L_shuts_J320 F I2 R (sv_pr A) s0 (sv_qt (sp_it n A).1) = some (I1, R, 1) ∧ zl_R I1 R A ns1 AH1 := by
    intro s0 hs
    unfold mi_L_shuts_J320
    rw [if_pos hs.symm, b.hangs hF, mz_ob, if_neg zk_10]
    exact zk_s335 hF b hA
  unfold mi_L_shuts_J293
  rw [a, mz_ob2]
  by_cases c1 : sv_qt A = -1005
  · rw [if_pos c1]
    refine last _ ?_
    rw [hq, if_pos c1]
    exact c1
  · rw [if_neg c1]
    by_cases c2 : sv_qt A ≤ nI n
    · rw [if_pos c2]
      refine last _ ?_
      rw [hq, if_neg c1, if_pos c2]
    · rw [if_neg c2]
      refine last _ ?_
      rw [hq, if_neg c1, if_neg c2]
theorem zk_shutsE (hF : 1100 ≤ F) (h : zl_R I R A ns AH) (h1 : 1 ≤ n) (hn : n ≤ 999) (k25) {v5 v6 : Int32} (hs : zk_sw A n (mz_nb A) v5 v6) : ∃ I1 R1 ns1 AH1, mi_L_shuts_B25 k25 F I R (nI n) (nI (mz_nb A)) (sv_qt A) (nI (sp_due n A (mz_nb A))) v5 v6 (nI (mz_nb A)) = some (I1, R1, 1) ∧ zl_R I1 R1 A ns1 AH1 := by
  have hok := h.ok
  obtain ⟨I2, R2, a, b⟩ := (zm_pass hF (nI n)).2 I R A ns AH h
  dsimp only at a
  have hnb : mz_nb A ≤ 10 := by
    obtain ⟨p, sl, lo, nb, nm, mb, ms, sc, bt⟩ := A
    exact hok.1.1.2.2.2.1
  unfold mi_L_shuts_B25
  rw [if_pos (zl_le (Nat.le_refl _) (by omega)), h.print hF, mz_ob, a, mz_ob3]
  rw [zk_pass h1 hn] at b ⊢
  by_cases c : mz_s0 A + nI n ≤ 99999
  · rw [if_pos c] at b ⊢
    dsimp only at b ⊢
    have hct := mz_ct_it n A
    have hd := zk_due (n := n) hok.1 (mz_nb A)
    have hWB := zw_it n A hok.1
    have hle := mz_ct_le hWB
    have hnbB := mz_nb_it n A
    have e : (sp_it n A).2 = sp_due n A (mz_nb A) := by
      have h3 : mz_ct (sp_it n A).1 = sp_ct (mz_bt (sp_it n A).1) (mz_nb (sp_it n A).1) := rfl
      have h4 : mz_ct A = sp_ct (mz_bt A) (mz_nb A) := rfl
      rw [hnbB] at h3
      omega
    rcases b with ⟨b1, -⟩ | ⟨b1, AH1, b2, b3⟩
    · exact absurd b1 (zk_nd (by omega))
    · rw [if_pos (zk_0le _ (by omega)), e, if_pos rfl]
      have fin := zk_s293 (n := n) hF hok.1 hn b2 b3
      rcases hs with q | ⟨k, u, hk, e5, hb, hu, hun, e6⟩
      · rw [if_pos q]
        obtain ⟨I3, ns3, AH3, y1, y2⟩ := fin
        exact ⟨I3, R2, ns3, AH3, y1, y2⟩
      · obtain ⟨u1, u2, u3, -⟩ := zk_un1 1100 u A hok.1 hb hu
        obtain ⟨g1, g2, g3⟩ := u3 n hun
        have b6 : sv_bot (sp_it n A).1 k 6 = v6 := by
          rw [e6, ← g2]
          exact if_neg g1
        have b13 : sv_bot (sp_it n A).1 k 13 = 0 := by
          show mz_bt (sp_it n A).1 k 4 = 0
          rw [g3]
          obtain ⟨p, sl, lo, nb, nm, mb, ms, sc, bt⟩ := A
          obtain ⟨-, s, -, -, -, z, -⟩ := hok
          exact ((z k hk).1 hb).2
        rw [if_neg (show ¬ v5 = -1005 by rw [e5]; exact mz_enc_no (by omega)), e5, show mi_X8_bottle I2 R2 (nI k) 6 = _ from b2.bottle (k := k) (j := 6) (by rw [hnbB]; exact hk) (by omega), mz_ob, if_pos b6, show mi_X8_bottle I2 R2 (nI k) 13 = _ from b2.bottle (k := k) (j := 13) (by rw [hnbB]; exact hk) (by omega), mz_ob, if_pos b13]
        obtain ⟨I3, ns3, AH3, y1, y2⟩ := fin
        exact ⟨I3, R2, ns3, AH3, y1, y2⟩
  · rw [if_neg c] at b ⊢
    dsimp only at b ⊢
    rcases b with ⟨-, -, b2⟩ | ⟨b1, -⟩
    · rw [if_neg (show ¬ (0 : Int32) ≤ -1003 by decide), if_pos rfl, b2.print hF, mz_ob, zk_cmp, if_pos rfl]
      exact ⟨I2, R2, ns, AH, rfl, b2⟩
    · exact absurd (by decide) b1
theorem zk_shutsL (hF : 1100 ≤ F) (h1 : 1 ≤ n) (hn : n ≤ 999) : ∀ (f d i : Nat) (I : Nat → Nat → Int32) (v5 v6 : Int32), i + d = mz_nb A → d < f → zl_R I R A ns AH → zk_sw A n i v5 v6 → ∃ I1 R1 ns1 AH1, mi_L_shuts_L25 F f I R (nI n) (nI (mz_nb A)) (sv_qt A) (nI (sp_due n A i)) v5 v6 (nI i) = some (I1, R1, 1) ∧ zl_R I1 R1 A ns1 AH1 := by
  intro f
  induction f with
  | zero => intro d i I v5 v6 _ q; omega
  | succ f ih =>
    intro d i I v5 v6 hid hdf h hs
    show ∃ I1 R1 ns1 AH1, mi_L_shuts_B25 _ F I R _ _ _ _ _ _ _ = _ ∧ _
    have hok := h.ok
    have hnb : mz_nb A ≤ 10 := by
      obtain ⟨p, sl, lo, nb, nm, mb, ms, sc, bt⟩ := A
      exact hok.1.1.2.2.2.1
    cases d with
    | zero =>
      have : i = mz_nb A := by omega
      subst this
      exact zk_shutsE hF h h1 hn _ hs
    | succ d =>
      have hi : i < mz_nb A := by omega
      obtain ⟨I2, a1, a2⟩ := h.shutIn hF hi
      obtain ⟨I3, a3, a4⟩ := a2.reason hF hi
      have e1 : nI i + 1 = nI (i + 1) := nI_add i 1
      have hb3 : mi_X8_bottle I3 R (nI i) 3 = some (mz_bt A i 1) := a4.bottle (k := i) (j := 3) hi (by omega)
      have hfl : mz_bt A i 1 = 0 ∨ mz_bt A i 1 = 1 := by
        obtain ⟨p, sl, lo, nb, nm, mb, ms, sc, bt⟩ := A
        exact (hok.1.2.2.2.2.2 i hi).1
      have hc0 : mi_X8_count F I3 R 0 = some (mz_s0 A) := a4.count hF 0 (by omega)
      unfold mi_L_shuts_B25
      rw [if_neg (zl_nle hi (by omega)), a1, mz_ob2, a3, mz_ob2]
      have hne : ¬ v5 = nI i := by
        rcases hs with q | ⟨k, u, hk, e5, -⟩
        · rw [q]
          exact fun z => mz_enc_no (show i ≤ 99999 by omega) z.symm
        · rw [e5]
          exact fun z => by have := (nI_eq (by omega) (by omega)).mp z; omega
      have hsw : zk_sw A n (i + 1) v5 v6 := hs.imp id (fun ⟨k, u, hk, q⟩ => ⟨k, u, by omega, q⟩)
      -- not due
      have no : ∀ (v8 s : Int32), nI (sp_due n A i) + s = nI (sp_due n A (i + 1)) → ∃ I1 R1 ns1 AH1, mi_L_shuts_J182 (mi_L_shuts_L25 F f) F I3 R (nI n) (nI (mz_nb A)) (sv_qt A) (nI (sp_due n A i) + s) v6 (nI i) v8 v5 = some (I1, R1, 1) ∧ zl_R I1 R1 A ns1 AH1 := by
        intro v8 s hsum
        rw [hsum]
        unfold mi_L_shuts_J182
        rw [if_neg hne]
        simp only [mz_bn]
        rw [e1]
        exact ih d (i + 1) I3 v5 v6 (by omega) (by omega) a4 hsw
      rcases zk_told (k := i) hok.1 with ⟨u, t0, tu, tsh, tre, u1, u2, tq, uq, uql⟩ | ⟨tsh, tdk, trest⟩
      · rw [tre, if_pos rfl, tsh]
        unfold mi_L_shuts_J57
        rw [if_neg (show ¬ nI u = -1005 from mz_enc_no (by omega))]
        unfold mi_L_shuts_J70
        rw [if_pos rfl, if_neg (show ¬ (0 : Int32) < 0 by decide), if_neg (show ¬ (5 : Int32) < 0 by decide), if_neg (show ¬ nI u = -1005 from mz_enc_no (by omega)), if_neg (show ¬ nI u < 1 from zl_nlt (b := 1) u1 (by omega)), if_neg (show ¬ sv_qt A = -1005 by rw [tq]; exact mz_enc_no (by omega)), if_neg (show ¬ sv_qt A < nI u by rw [tq]; exact zl_nlt uq (by omega))]
        unfold mi_L_shuts_J111 mi_L_shuts_J122
        rw [if_neg zk_01, hb3, mz_ob, t0, if_neg zk_01]
        unfold mi_L_shuts_J138
        rw [if_pos rfl, if_pos rfl]
        by_cases c : n < u
        · have hd : sp_due n A (i + 1) = sp_due n A i := by
            show sp_due n A i + sp_dk n A i = _
            unfold sp_dk
            rw [if_pos t0, tu]
            dsimp only
            rw [if_neg (by omega)]
            rfl
          rw [if_pos (zl_lt c (by omega))]
          unfold mi_L_shuts_J161
          simp only [mz_bn]
          rw [if_pos trivial, if_pos (zl_lt c (by omega))]
          exact no _ 0 (by rw [hd]; exact Int32.add_zero _)
        · have hd : sp_due n A (i + 1) = sp_due n A i + 1 := by
            show sp_due n A i + sp_dk n A i = _
            unfold sp_dk
            rw [if_pos t0, tu]
            dsimp only
            rw [if_pos (by omega)]
          rw [if_neg (zl_nlt (by omega) (by omega))]
          unfold mi_L_shuts_J161
          simp only [mz_bn]
          rw [if_pos trivial, if_neg (zl_nlt (by omega) (by omega))]
          rw [show nI (sp_due n A i) + 1 = nI (sp_due n A i + 1) from nI_add _ 1, ← hd]
          unfold mi_L_shuts_J182
          rw [if_pos rfl, hc0, mz_ob]
          simp only [mz_bn]
          rw [e1]
          exact ih d (i + 1) I3 (nI i) (mz_s0 A + nI u) (by omega) (by omega) a4 (Or.inr ⟨i, u, by omega, rfl, t0, tu, by omega, rfl⟩)
      · have hd : sp_due n A (i + 1) = sp_due n A i := by
          show sp_due n A i + sp_dk n A i = _
          rw [tdk n]
          rfl
        have re : sv_re A i = 1 ∨ sv_re A i = 2 ∨ sv_re A i = 3 ∨ sv_re A i = 4 ∨ sv_re A i = 5 := by
          rcases trest with ⟨-, q⟩ | ⟨-, q⟩
          · exact Or.inr q
          · exact Or.inl q
        have r0 : ¬ sv_re A i = 0 := by rcases re with q | q | q | q | q <;> rw [q] <;> decide
        have r1 : ¬ sv_re A i < 0 := by rcases re with q | q | q | q | q <;> rw [q] <;> decide
        have r2 : ¬ 5 < sv_re A i := by rcases re with q | q | q | q | q <;> rw [q] <;> decide
        rw [if_neg r0, tsh]
        unfold mi_L_shuts_J57
        rw [if_pos rfl]
        unfold mi_L_shuts_J70
        rw [if_pos rfl, if_neg r1, if_neg r2, if_pos rfl]
        unfold mi_L_shuts_J111
        have go : ∀ s : Int32, s = mz_bt A i 1 → ∃ I1 R1 ns1 AH1, mi_L_shuts_J122 (mi_L_shuts_L25 F f) F I3 R (nI n) (nI (mz_nb A)) (sv_qt A) (nI (sp_due n A i)) v5 v6 (nI i) (-1005) (sv_re A i) s = some (I1, R1, 1) ∧ zl_R I1 R1 A ns1 AH1 := by
          intro s hs2
          unfold mi_L_shuts_J122
          rw [hb3, mz_ob]
          have go2 : ∀ s2 : Int32, s2 = mz_bt A i 1 → ∃ I1 R1 ns1 AH1, mi_L_shuts_J138 (mi_L_shuts_L25 F f) F I3 R (nI n) (nI (mz_nb A)) (sv_qt A) (nI (sp_due n A i)) v5 v6 (nI i) (-1005) (sv_re A i) s2 s = some (I1, R1, 1) ∧ zl_R I1 R1 A ns1 AH1 := by
            intro s2 hs3
            unfold mi_L_shuts_J138
            rw [if_pos (hs2.trans hs3.symm), if_neg r0]
            unfold mi_L_shuts_J161
            simp only [mz_bn]
            rw [if_neg r0]
            exact no _ 0 (by rw [hd]; exact Int32.add_zero _)
          rcases hfl with q | q
          · rw [q, if_neg zk_01]
            exact go2 0 q.symm
          · rw [q, if_pos rfl]
            exact go2 1 q.symm
        rcases trest with ⟨q0, q⟩ | ⟨q0, q⟩
        · rw [if_neg (show ¬ sv_re A i = 1 by rcases q with q | q | q | q <;> rw [q] <;> decide)]
          exact go 0 q0.symm
        · rw [if_pos q]
          exact go 1 (hfl.resolve_left q0).symm
theorem zl_R.shuts (h : zl_R I R A ns AH) (hF : 1100 ≤ F) (h1 : 1 ≤ n) (hn : n ≤ 999) : ∃ I1 R1 ns1 AH1, mi_L_shuts F I R (nI n) = some (I1, R1, 1) ∧ zl_R I1 R1 A ns1 AH1 := by
  have hok := h.ok
  have hnb : mz_nb A ≤ 10 := by
    obtain ⟨p, sl, lo, nb, nm, mb, ms, sc, bt⟩ := A
    exact hok.1.1.2.2.2.1
  obtain ⟨I2, a1, a2⟩ := h.quiet hF
  unfold mi_L_shuts
  rw [show mi_X8_count F I R 5 = some (nI (mz_nb A)) from h.count hF 5 (by omega), mz_ob, a1, mz_ob2]
  exact zk_shutsL hF h1 hn F (mz_nb A) 0 I2 (-1005) 0 (by omega) (by omega) a2 (Or.inl rfl)
end SHT

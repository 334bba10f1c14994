/-! shutIn, reason, quietIn, as functions of the state -/
def sv_sh (A : mz_A) (k : Nat) : Int32 := if mz_bt A k 1 = 0 then sp_ur 0 (sp_un k 1100 A) else -1005
def sv_re (A : mz_A) (k : Nat) : Int32 := if mz_bt A k 1 = 0 then (if mz_p A ≤ mz_mb A k then 2 else if mz_cs A < 6 then (if mz_nm A = 0 ∨ mz_ms A (mz_nm A - 1) ≤ mz_mb A k then 4 else match sp_un k 1100 A with | none => 5 | some _ => 0) else 3) else 1
section ASK
variable {I : Nat → Nat → Int32} {R : Nat → Nat → Option Nat} {A : mz_A} {F k : Nat}
theorem zk_secs (hF : 1100 ≤ F) (hC : zz_CS I R 0 A) (hR : zz_RW R 0) (hR36 : zz_RW R 36) (hW : zz_WF A) (hk : k < mz_nb A) (hb : mz_bt A k 1 = 0) : ∃ I1, mi_X8_secondsToShut F I R (nI k) = some (I1, sp_ur 0 (sp_un k 1100 A)) ∧ zz_fr 36 I I1 := by
  have hmu := mz_mu_le hW
  obtain ⟨I2, c1, c2, c3⟩ := zc_copyFrom (F := F) (by omega) hR36 hR (by omega) hW hC
  have hnb : I2 36 4 = nI (mz_nb A) ∧ mz_nb A ≤ 10 := by
    obtain ⟨p, sl, lo, nb, nm, mb, ms, sc, bt⟩ := A
    exact ⟨c3.1.2.2.2.1, hW.1.2.2.2.1⟩
  obtain ⟨I1, d1, d2⟩ := zc_unL (F := F) (k := k) (st := mz_s0 A) (by omega) hR36 F 0 0 A I2 c3 hW hk hb (by omega) (by omega) (Int32.add_zero _).symm
  refine ⟨I1, ?_, c2.trans d2⟩
  unfold mi_X8_secondsToShut mi_X5_runUntilShut
  rw [c1, mz_ob, zc_bottleAt hR36 hnb.1 hnb.2 hk, mz_ob]
  simp only [mz_bn]
  rw [zc_s0 c3, show (0 : Int32) = nI 0 from rfl, d1, mz_ob2]
theorem zk_shutIn (hF : 1100 ≤ F) (hC : zz_CS I R 0 A) (hR : zz_RW R 0) (hR36 : zz_RW R 36) (hW : zz_WF A) (hk : k < mz_nb A) : ∃ I1, mi_X8_shutIn F I R (nI k) = some (I1, sv_sh A k) ∧ zz_fr 36 I I1 := by
  have hnb : I 0 4 = nI (mz_nb A) ∧ mz_nb A ≤ 10 := by
    obtain ⟨p, sl, lo, nb, nm, mb, ms, sc, bt⟩ := A
    exact ⟨hC.1.2.2.2.1, hW.1.2.2.2.1⟩
  obtain ⟨n1, n2⟩ := hnb
  unfold mi_X8_shutIn sv_sh
  rw [zc_bottleAt hR n1 n2 hk, mz_ob, mz_oms, zc_bt1 hC hk]
  by_cases c : mz_bt A k 1 = 0
  · obtain ⟨I1, a1, a2⟩ := zk_secs hF hC hR hR36 hW hk c
    rw [if_pos c, if_pos c, a1]
    exact ⟨I1, rfl, a2⟩
  · rw [if_neg c, if_neg c]
    exact ⟨I, rfl, zz_fr.rfl⟩
theorem zk_reason (hF : 1100 ≤ F) (hC : zz_CS I R 0 A) (hR : zz_RW R 0) (hR36 : zz_RW R 36) (hW : zz_WF A) (hk : k < mz_nb A) : ∃ I1, mi_X8_reason F I R (nI k) = some (I1, sv_re A k) ∧ zz_fr 36 I I1 := by
  have hB := fun (hb : mz_bt A k 1 = 0) => zk_secs hF hC hR hR36 hW hk hb
  have hun := fun u => sp_un_le (k := k) 1100 u A
  obtain ⟨p, sl, lo, nb, nm, mb, ms, sc, bt⟩ := A
  obtain ⟨⟨w1, w2, w3, w4, w5⟩, x1, x2, x3, x4, x5⟩ := hW
  obtain ⟨⟨h0, h1, h2, h3, h4, -⟩, -, hmm, hb⟩ := hC
  have hk' : k < nb := hk
  have hmk := x1 k hk'
  unfold mi_X8_reason sv_re
  rw [zc_bottleAt hR h3 w4 hk', mz_ob, mz_oms, (hb k hk').2.2.2.1]
  by_cases c : bt k 1 = 0
  · rw [if_pos c, if_pos (show mz_bt (p, sl, lo, nb, nm, mb, ms, sc, bt) k 1 = 0 from c), (hb k hk').1, zc_inw h0 w1 hmk]
    by_cases c2 : p ≤ mb k
    · rw [if_pos c2, if_pos rfl, if_pos (show mz_p (p, sl, lo, nb, nm, mb, ms, sc, bt) ≤ mz_mb (p, sl, lo, nb, nm, mb, ms, sc, bt) k from c2)]
      exact ⟨I, rfl, zz_fr.rfl⟩
    · rw [if_neg c2, if_neg zk_10, if_neg (show ¬ mz_p (p, sl, lo, nb, nm, mb, ms, sc, bt) ≤ mz_mb (p, sl, lo, nb, nm, mb, ms, sc, bt) k from c2), zc_sticking h1 h2 w2 w3]
      by_cases c3 : sp_cs sl lo < 6
      · rw [if_pos c3, if_pos rfl, if_pos (show mz_cs (p, sl, lo, nb, nm, mb, ms, sc, bt) < 6 from c3)]
        unfold mi_X4_isAnyAbove
        rw [show I 5 1 = nI nm from h4]
        by_cases c4 : nm = 0
        · rw [if_pos (show nI nm ≤ 0 from zl_le (b := 0) (by omega) (by omega)), mz_ob, if_pos rfl, if_pos (show mz_nm (p, sl, lo, nb, nm, mb, ms, sc, bt) = 0 ∨ _ from Or.inl c4)]
          exact ⟨I, rfl, zz_fr.rfl⟩
        · have hms := (x3 (nm - 1) (by omega)).2
          rw [if_neg (show ¬ nI nm ≤ 0 from zl_nle (b := 0) (by omega) (by omega)), show nI nm - 1 = nI (nm - 1) from pk_sub (b := 1) (by omega), zc_markAt (by omega), mz_ob, show I (5 + 1) (nm - 1) = nI (ms (nm - 1)) from hmm (nm - 1) (by omega)]
          by_cases c6 : ms (nm - 1) ≤ mb k
          · rw [if_pos (zl_le c6 (by omega)), mz_ob, if_pos rfl, if_pos (show mz_nm (p, sl, lo, nb, nm, mb, ms, sc, bt) = 0 ∨ mz_ms (p, sl, lo, nb, nm, mb, ms, sc, bt) (mz_nm (p, sl, lo, nb, nm, mb, ms, sc, bt) - 1) ≤ mz_mb (p, sl, lo, nb, nm, mb, ms, sc, bt) k from Or.inr c6)]
            exact ⟨I, rfl, zz_fr.rfl⟩
          · obtain ⟨I1, a1, a2⟩ := hB c
            rw [if_neg (zl_nle (by omega) (by omega)), mz_ob, if_neg zk_10, if_neg (show ¬ (mz_nm (p, sl, lo, nb, nm, mb, ms, sc, bt) = 0 ∨ mz_ms (p, sl, lo, nb, nm, mb, ms, sc, bt) (mz_nm (p, sl, lo, nb, nm, mb, ms, sc, bt) - 1) ≤ mz_mb (p, sl, lo, nb, nm, mb, ms, sc, bt) k) from fun q => q.elim c4 c6), a1, mz_ob2]
            cases hu : sp_un k 1100 (p, sl, lo, nb, nm, mb, ms, sc, bt) with
            | none =>
              rw [if_pos (show sp_ur 0 none = -1005 from rfl)]
              exact ⟨I1, rfl, a2⟩
            | some u =>
              rw [if_neg (sp_ur_no (hun u hu))]
              exact ⟨I1, rfl, a2⟩
      · rw [if_neg c3, if_neg zk_10, if_neg (show ¬ mz_cs (p, sl, lo, nb, nm, mb, ms, sc, bt) < 6 from c3)]
        exact ⟨I, rfl, zz_fr.rfl⟩
  · rw [if_neg c, if_neg (show ¬ mz_bt (p, sl, lo, nb, nm, mb, ms, sc, bt) k 1 = 0 from c)]
    exact ⟨I, rfl, zz_fr.rfl⟩
theorem zk_quiet (hF : 1100 ≤ F) (hC : zz_CS I R 0 A) (hR : zz_RW R 0) (hR36 : zz_RW R 36) (hW : zz_WF A) : ∃ I1, mi_X8_quietIn F I R = some (I1, sv_qt A) ∧ zz_fr 36 I I1 := by
  have hmu := mz_mu_le hW
  obtain ⟨n1, n2, n3⟩ := zc_nm hC hW
  unfold mi_X8_quietIn sv_qt
  rw [show I 5 1 = nI (mz_nm A) from n1, show mi_X1_isSticking I 1 = _ from n2]
  by_cases c : mz_nm A = 0
  · rw [if_pos (show nI (mz_nm A) = 0 by rw [c]; rfl), if_pos c]
    exact ⟨I, rfl, zz_fr.rfl⟩
  · rw [if_neg (show ¬ nI (mz_nm A) = 0 from fun q => c ((nI_eq (b := 0) (by omega) (by omega)).mp q)), if_neg c]
    by_cases c3 : mz_cs A < 6
    · rw [if_pos c3, if_pos rfl, if_pos c3]
      obtain ⟨I2, d1, d2, d3⟩ := zc_copyFrom (F := F) (by omega) hR36 hR (by omega) hW hC
      obtain ⟨I1, g1, g2⟩ := zc_uqL (F := F) (st := mz_s0 A) (by omega) hR36 F 0 0 A I2 d3 hW c3 (by omega) (by omega) (Int32.add_zero _).symm
      have : mi_X5_runUntilQuiet F I2 R 36 = some (I1, nI (0 + sp_uq 1100 A)) := by
        unfold mi_X5_runUntilQuiet
        simp only [mz_bn]
        rw [zc_s0 d3]
        exact g1
      rw [d1, mz_ob, this, mz_ob2, Nat.zero_add]
      exact ⟨I1, rfl, d2.trans g2⟩
    · rw [if_neg c3, if_neg zk_10, if_neg c3]
      exact ⟨I, rfl, zz_fr.rfl⟩
end ASK
section ASK2
variable {I : Nat → Nat → Int32} {R : Nat → Nat → Option Nat} {A : mz_A} {F ns k : Nat} {AH : Nat → mz_A}
theorem zl_R.shutIn (h : zl_R I R A ns AH) (hF : 1100 ≤ F) (hk : k < mz_nb A) : ∃ I1, mi_X8_shutIn F I R (nI k) = some (I1, sv_sh A k) ∧ zl_R I1 R A ns AH := by
  obtain ⟨I1, a, b⟩ := zk_shutIn hF h.2.1 h.1.1 h.1.2.2 h.2.2.1.1 hk
  exact ⟨I1, a, h.ask b⟩
theorem zl_R.reason (h : zl_R I R A ns AH) (hF : 1100 ≤ F) (hk : k < mz_nb A) : ∃ I1, mi_X8_reason F I R (nI k) = some (I1, sv_re A k) ∧ zl_R I1 R A ns AH := by
  obtain ⟨I1, a, b⟩ := zk_reason hF h.2.1 h.1.1 h.1.2.2 h.2.2.1.1 hk
  exact ⟨I1, a, h.ask b⟩
theorem zl_R.quiet (h : zl_R I R A ns AH) (hF : 1100 ≤ F) : ∃ I1, mi_X8_quietIn F I R = some (I1, sv_qt A) ∧ zl_R I1 R A ns AH := by
  obtain ⟨I1, a, b⟩ := zk_quiet hF h.2.1 h.1.1 h.1.2.2 h.2.2.1.1
  exact ⟨I1, a, h.ask b⟩
end ASK2
/-- what was told of a bottle: it will be shut in u seconds, or not -/
theorem zk_told {A : mz_A} {k : Nat} (hW : zz_WF A) : (∃ u, mz_bt A k 1 = 0 ∧ sp_un k 1100 A = some u ∧ sv_sh A k = nI u ∧ sv_re A k = 0 ∧ 1 ≤ u ∧ u ≤ 1100 ∧ sv_qt A = nI (sp_uq 1100 A) ∧ u ≤ sp_uq 1100 A ∧ sp_uq 1100 A ≤ 1100) ∨ (sv_sh A k = -1005 ∧ (∀ n, sp_dk n A k = 0) ∧ ((mz_bt A k 1 = 0 ∧ (sv_re A k = 2 ∨ sv_re A k = 3 ∨ sv_re A k = 4 ∨ sv_re A k = 5)) ∨ (¬ mz_bt A k 1 = 0 ∧ sv_re A k = 1))) := by
  by_cases c : mz_bt A k 1 = 0
  · cases hu : sp_un k 1100 A with
    | none =>
      refine Or.inr ⟨by unfold sv_sh; rw [if_pos c, hu]; rfl, fun n => by unfold sp_dk; rw [if_pos c, hu], Or.inl ⟨c, ?_⟩⟩
      unfold sv_re
      rw [if_pos c, hu]
      split
      · exact Or.inl rfl
      · split
        · split
          · exact Or.inr (Or.inr (Or.inl rfl))
          · exact Or.inr (Or.inr (Or.inr rfl))
        · exact Or.inr (Or.inl rfl)
    | some u =>
      obtain ⟨u1, -, -, u4, u5, u6, u7⟩ := zk_un1 1100 u A hW c hu
      have ul := sp_un_le 1100 u A hu
      have uq := zk_unq 1100 u A hu
      have uql := zk_uqle 1100 A
      refine Or.inl ⟨u, c, rfl, ?_, ?_, u1, by omega, ?_, uq, uql⟩
      · unfold sv_sh
        rw [if_pos c, hu]
        show nI (0 + u) = _
        rw [Nat.zero_add]
      · have hm : ¬ (mz_nm A = 0 ∨ mz_ms A (mz_nm A - 1) ≤ mz_mb A k) := fun q => q.elim u6 (fun q => by
          unfold mz_mu at u7
          rw [if_neg u6] at u7
          omega)
        unfold sv_re
        rw [if_pos c, if_neg (by omega), if_pos u5, if_neg hm, hu]
      · exact (if_neg u6).trans (if_pos u5)
  · refine Or.inr ⟨if_neg c, fun n => if_neg c, Or.inr ⟨c, if_neg c⟩⟩

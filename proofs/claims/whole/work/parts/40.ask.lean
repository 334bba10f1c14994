/-! reason, shutIn, quietIn -/
theorem zq_shutBoth {I : Nat → Nat → Int32} {R : Nat → Nat → Option Nat} {J : Nat → Nat → Int32} {A : mz_A} {F k : Nat} (hF : 1100 ≤ F) (hC : zz_CS I R 0 A) (hR : zz_RW R 0) (hR36 : zz_RW R 36) (hW : zz_WF A) (hJ : zz_RS J 0 A) (hk : k < mz_nb A) (hb : mz_bt A k 1 = 0) : ∃ I1 J1, mi_X8_secondsToShut F I R (nI k) = some (I1, sp_ur 0 (sp_un k 1100 A)) ∧ zz_fr 36 I I1 ∧ mi_X9_secondsTo F J (nI k) = some (J1, sp_ur 0 (sp_un k 1100 A)) ∧ zz_frJ 1239 J J1 := by
  have hmu := mz_mu_le hW
  obtain ⟨I2, c1, c2, c3⟩ := zc_copyFrom (F := F) (by omega) hR36 hR (by omega) hW hC
  have hnb : I2 36 4 = nI (mz_nb A) ∧ mz_nb A ≤ 10 := by
    obtain ⟨p, sl, lo, nb, nm, mb, ms, sc, bt⟩ := A
    exact ⟨c3.1.2.2.2.1, hW.1.2.2.2.1⟩
  obtain ⟨I1, d1, d2⟩ := zc_unL (F := F) (k := k) (st := mz_s0 A) (by omega) hR36 F 0 0 A I2 c3 hW hk hb (by omega) (by omega) (Int32.add_zero _).symm
  obtain ⟨J2, e1, e2, e3⟩ := zr_copies (J := J) (F := F) (r1 := 0) (r2 := 7) (by omega) (by omega) (by omega) (by omega)
  have hJ2 : zz_RS J2 1239 A := zr_like hW hJ (fun j hj => by have := e3 j hj; exact this)
  obtain ⟨J1, f1, f2⟩ := zr_unL (F := F) (b := 1239) (k := k) (by omega) (by omega) F 0 A J2 hJ2 hW hk (by omega)
  refine ⟨I1, J1, ?_, c2.trans d2, ?_, e2.trans f2⟩
  · unfold mi_X8_secondsToShut mi_X5_runUntilShut
    rw [c1, mz_ob, zc_bottleAt hR36 hnb.1 hnb.2 hk, mz_ob]
    simp only [mz_bn]
    rw [zc_s0 c3, show (0 : Int32) = nI 0 from rfl, d1, mz_ob2]
  · unfold mi_X9_secondsTo
    rw [show mi_X9_copies F J 0 7 = some J2 from e1, mz_ob, show (1239 : Int32) = nI 1239 from rfl, show (0 : Int32) = nI 0 from rfl, f1, sp_un_fuel F 1100 A hW (by omega) (by omega)]
theorem zq_shutIn {I : Nat → Nat → Int32} {R : Nat → Nat → Option Nat} {J : Nat → Nat → Int32} {A : mz_A} {F : Nat} (hF : 1100 ≤ F) (x : Int32) (hC : zz_CS I R 0 A) (hR : zz_RW R 0) (hR36 : zz_RW R 36) (hW : zz_WF A) (hJ : zz_RS J 0 A) : ∃ I1 J1 r, mi_X8_shutIn F I R x = some (I1, r) ∧ zz_fr 36 I I1 ∧ mi_X9_shutIn F J x = some (J1, r) ∧ zz_frJ 1239 J J1 := by
  have hnb : I 0 4 = nI (mz_nb A) ∧ mz_nb A ≤ 10 ∧ J 1 4 = nI (mz_nb A) := by
    obtain ⟨p, sl, lo, nb, nm, mb, ms, sc, bt⟩ := A
    have := hJ.1.2.2.2.2.1
    rw [Nat.zero_add] at this
    exact ⟨hC.1.2.2.2.1, hW.1.2.2.2.1, this⟩
  obtain ⟨n1, n2, n3⟩ := hnb
  unfold mi_X8_shutIn mi_X9_shutIn
  rcases zn_ix2 x (n := mz_nb A) (by omega) with h | h | ⟨k, hk, rfl⟩
  · rw [zc_bottleNo n1 (Or.inl h), zr_isBottleNo n3 n2 (Or.inl h), mz_ob, mz_ob, if_pos rfl]
    exact ⟨I, J, _, rfl, zz_fr.rfl, rfl, zz_frJ.rfl⟩
  · rw [zc_bottleNo n1 (Or.inr h), zr_isBottleNo n3 n2 (Or.inr h), mz_ob, mz_ob, if_pos rfl]
    exact ⟨I, J, _, rfl, zz_fr.rfl, rfl, zz_frJ.rfl⟩
  · rw [zc_bottleAt hR n1 n2 hk, mz_ob, mz_oms, zc_bt1 hC hk, zr_isBottleYes n3 n2 hk, mz_ob, if_neg (show ¬ (1 : Int32) = 0 by decide), zr_isShut hJ hk hW, mz_ob]
    by_cases c : mz_bt A k 1 = 0
    · obtain ⟨I1, J1, a1, a2, a3, a4⟩ := zq_shutBoth hF hC hR hR36 hW hJ hk c
      simp only [if_pos c, if_true]
      rw [a1, a3]
      exact ⟨I1, J1, _, rfl, a2, rfl, a4⟩
    · simp only [if_neg c]
      rw [if_neg (show ¬ (1 : Int32) = 0 by decide)]
      exact ⟨I, J, _, rfl, zz_fr.rfl, rfl, zz_frJ.rfl⟩
theorem sp_ur_no {u : Nat} (h : u < 1100) : ¬ sp_ur 0 (some u) = -1005 := by
  show ¬ nI (0 + u) = -1005
  exact mz_enc_no (by omega)
theorem zq_reason {I : Nat → Nat → Int32} {R : Nat → Nat → Option Nat} {J : Nat → Nat → Int32} {A : mz_A} {F : Nat} (hF : 1100 ≤ F) (x : Int32) (hC : zz_CS I R 0 A) (hR : zz_RW R 0) (hR36 : zz_RW R 36) (hW : zz_WF A) (hJ : zz_RS J 0 A) : ∃ I1 J1 r, mi_X8_reason F I R x = some (I1, r) ∧ zz_fr 36 I I1 ∧ mi_X9_reason F J x = some (J1, r) ∧ zz_frJ 1239 J J1 := by
  have hB := fun k (hk : k < mz_nb A) (hb : mz_bt A k 1 = 0) => zq_shutBoth hF hC hR hR36 hW hJ hk hb
  have hS := fun k (hk : k < mz_nb A) => zr_isShut hJ hk hW
  obtain ⟨p, sl, lo, nb, nm, mb, ms, sc, bt⟩ := A
  obtain ⟨⟨w1, w2, w3, w4, w5⟩, x1, x2, x3, x4, x5⟩ := hW
  obtain ⟨⟨h0, h1, h2, h3, h4, -⟩, -, hmm, hb⟩ := hC
  obtain ⟨⟨-, j1, j2, j3, j4, j5⟩, js, jm, jb⟩ := hJ
  have j1' := j1
  rw [Nat.zero_add] at j1 j4 j5
  have hcnt : mi_X9_counted J 0 = some (nI (sp_cs sl lo)) := zr_counted (b := 0) (by omega) j2 j3 w2 w3
  have hcs := sp_cs_le sl lo
  unfold mi_X8_reason mi_X9_reason
  rcases zn_ix2 x (n := nb) (by omega) with h | h | ⟨k, hk, rfl⟩
  · rw [zc_bottleNo h3 (Or.inl h), zr_isBottleNo j4 w4 (Or.inl h), mz_ob, mz_ob, if_pos rfl]
    exact ⟨I, J, _, rfl, zz_fr.rfl, rfl, zz_frJ.rfl⟩
  · rw [zc_bottleNo h3 (Or.inr h), zr_isBottleNo j4 w4 (Or.inr h), mz_ob, mz_ob, if_pos rfl]
    exact ⟨I, J, _, rfl, zz_fr.rfl, rfl, zz_frJ.rfl⟩
  · have hmk := x1 k hk
    have hbb := jb k hk
    rw [zc_bottleAt hR h3 w4 hk, mz_ob, mz_oms, (hb k hk).2.2.2.1, zr_isBottleYes j4 w4 hk, mz_ob, if_neg (show ¬ (1 : Int32) = 0 by decide), hS k hk, mz_ob]
    by_cases c : bt k 1 = 0
    · rw [if_pos c, show (if mz_bt (p, sl, lo, nb, nm, mb, ms, sc, bt) k 1 = 0 then (0 : Int32) else 1) = 0 from if_pos c, if_pos rfl, (hb k hk).1, zc_inw h0 w1 hmk, show mi_X9_isInWater J 0 (nI k) = _ from zr_inw (b := 0) (by omega) (by omega) j1' hbb.1 w1 hmk]
      by_cases c2 : p ≤ mb k
      · rw [if_pos c2, if_pos c2, if_pos rfl, mz_ob, if_pos rfl]
        exact ⟨I, J, _, rfl, zz_fr.rfl, rfl, zz_frJ.rfl⟩
      · rw [if_neg c2, if_neg c2, if_neg (show ¬ (1 : Int32) = 0 by decide), mz_ob, if_neg (show ¬ (1 : Int32) = 0 by decide), hcnt, mz_ob, zc_sticking h1 h2 w2 w3]
        by_cases c3 : sp_cs sl lo < 6
        · rw [if_pos c3, if_pos rfl, if_neg (show ¬ nI (sp_cs sl lo) = 6 from fun q => by have := (nI_eq (b := 6) (by omega) (by omega)).mp q; omega)]
          obtain ⟨I1, J1, a1, a2, a3, a4⟩ := hB k hk c
          have last : ∀ s, s = 0 ∨ s = 1 → ∃ I2 J2 r, (if s = (0 : Int32) then some (I, (4 : Int32)) else mc_ob2 (mi_X8_secondsToShut F I R (nI k)) fun I15 r16 => if r16 = -1005 then some (I15, 5) else some (I15, 0)) = some (I2, r) ∧ zz_fr 36 I I2 ∧ mi_X9_reason_J89 F J (nI k) s = some (J2, r) ∧ zz_frJ 1239 J J2 := by
            intro s hs
            unfold mi_X9_reason_J89
            by_cases cs : s = 0
            · rw [if_pos cs, if_pos cs]
              exact ⟨I, J, _, rfl, zz_fr.rfl, rfl, zz_frJ.rfl⟩
            · rw [if_neg cs, if_neg cs, a1, mz_ob2, a3, mz_ob2]
              by_cases cr : sp_ur 0 (sp_un k 1100 (p, sl, lo, nb, nm, mb, ms, sc, bt)) = -1005
              · rw [if_pos cr, if_pos cr]
                exact ⟨I1, J1, _, rfl, a2, rfl, a4⟩
              · rw [if_neg cr, if_neg cr]
                exact ⟨I1, J1, _, rfl, a2, rfl, a4⟩
          have b5 : ((5 : Int32) < 0 ∨ 1416 ≤ (5 : Int32).toNatClampNeg) = False := by decide
          have c5 : (5 : Int32).toNatClampNeg = 5 := by decide
          simp only [b5, if_false]
          simp only [c5]
          rw [j5]
          unfold mi_X4_isAnyAbove
          rw [show I 5 1 = nI nm from h4]
          by_cases c4 : nm = 0
          · rw [if_pos (show nI nm ≤ 0 from zl_le (b := 0) (by omega) (by omega)), if_pos (show nI nm ≤ 0 from zl_le (b := 0) (by omega) (by omega)), mz_ob]
            exact last 0 (Or.inl rfl)
          · rw [if_neg (show ¬ nI nm ≤ 0 from zl_nle (b := 0) (by omega) (by omega)), if_neg (show ¬ nI nm ≤ 0 from zl_nle (b := 0) (by omega) (by omega)), show nI nm - 1 = nI (nm - 1) from pk_sub (b := 1) (by omega), zc_markAt (by omega), mz_ob, show I (5 + 1) (nm - 1) = nI (ms (nm - 1)) from hmm (nm - 1) (by omega)]
            have g : J 1 (153 + 2 * (nm - 1)) = nI (ms (nm - 1)) := by have := (jm (nm - 1) (by omega)).1; rw [Nat.zero_add] at this; exact this
            have g0 : J 1 (33 + 12 * k) = nI (mb k) := by have := hbb.1; rw [Nat.zero_add] at this; exact this
            have e1 : mi_X9_messengerAt 0 (nI (nm - 1)) = nI (153 + 2 * (nm - 1)) := by
              unfold mi_X9_messengerAt
              simp (disch := omega) only [zi_lit, zi_add, zi_mul, zi_le, zi_lt, zi_cl, Nat.not_lt_zero, zn_nle, zn_yle, zn_nlt, zn_ylt, if_false, if_true, or_false, false_or, mz_bn]
            have hms := (x3 (nm - 1) (by omega)).2
            rw [e1, zr_bAt]
            have b2 : (nI (153 + 2 * (nm - 1)) < 0 ∨ 1416 ≤ (nI (153 + 2 * (nm - 1))).toNatClampNeg) = False := by simp (disch := omega) only [zi_lit, zi_add, zi_mul, zi_le, zi_lt, zi_cl, Nat.not_lt_zero, zn_nle, zn_yle, zn_nlt, zn_ylt, if_false, if_true, or_false, false_or, mz_bn]
            have b3 : (nI (33 + 12 * k) < 0 ∨ 1416 ≤ (nI (33 + 12 * k)).toNatClampNeg) = False := by simp (disch := omega) only [zi_lit, zi_add, zi_mul, zi_le, zi_lt, zi_cl, Nat.not_lt_zero, zn_nle, zn_yle, zn_nlt, zn_ylt, if_false, if_true, or_false, false_or, mz_bn]
            simp only [b2, b3, if_false]
            rw [zi_cl (show 153 + 2 * (nm - 1) < 2147483648 by omega), zi_cl (show 33 + 12 * k < 2147483648 by omega), g, g0]
            by_cases c6 : ms (nm - 1) ≤ mb k
            · rw [if_pos (zl_le c6 (by omega)), if_pos (zl_le c6 (by omega)), mz_ob]
              exact last 0 (Or.inl rfl)
            · rw [if_neg (zl_nle (by omega) (by omega)), if_neg (zl_nle (by omega) (by omega)), mz_ob]
              exact last 1 (Or.inr rfl)
        · rw [if_neg c3, if_neg (show ¬ (1 : Int32) = 0 by decide), if_pos (show nI (sp_cs sl lo) = 6 by rw [show sp_cs sl lo = 6 by omega]; rfl)]
          exact ⟨I, J, _, rfl, zz_fr.rfl, rfl, zz_frJ.rfl⟩
    · rw [if_neg c, show (if mz_bt (p, sl, lo, nb, nm, mb, ms, sc, bt) k 1 = 0 then (0 : Int32) else 1) = 1 from if_neg c, if_neg (show ¬ (1 : Int32) = 0 by decide)]
      exact ⟨I, J, _, rfl, zz_fr.rfl, rfl, zz_frJ.rfl⟩
theorem zq_quietIn {I : Nat → Nat → Int32} {R : Nat → Nat → Option Nat} {J : Nat → Nat → Int32} {A : mz_A} {F : Nat} (hF : 1100 ≤ F) (hC : zz_CS I R 0 A) (hR : zz_RW R 0) (hR36 : zz_RW R 36) (hW : zz_WF A) (hJ : zz_RS J 0 A) : ∃ I1 J1 r, mi_X8_quietIn F I R = some (I1, r) ∧ zz_fr 36 I I1 ∧ mi_X9_quietIn F J = some (J1, r) ∧ zz_frJ 1239 J J1 := by
  have hmu := mz_mu_le hW
  obtain ⟨n1, n2, n3⟩ := zc_nm hC hW
  have hjr : J 1 5 = nI (mz_nm A) ∧ mi_X9_counted J 0 = some (nI (mz_cs A)) ∧ mz_cs A ≤ 6 := by
    obtain ⟨p, sl, lo, nb, nm, mb, ms, sc, bt⟩ := A
    have := hJ.1.2.2.2.2.2
    rw [Nat.zero_add] at this
    exact ⟨this, zr_counted (b := 0) (by omega) hJ.1.2.2.1 hJ.1.2.2.2.1 hW.1.2.1 hW.1.2.2.1, sp_cs_le _ _⟩
  obtain ⟨r1, r2, r3⟩ := hjr
  obtain ⟨J2, e1, e2, e3⟩ := zr_copies (J := J) (F := F) (r1 := 0) (r2 := 7) (by omega) (by omega) (by omega) (by omega)
  have hJ2 : zz_RS J2 1239 A := zr_like hW hJ (fun j hj => by have := e3 j hj; exact this)
  have b5 : ((5 : Int32) < 0 ∨ 1416 ≤ (5 : Int32).toNatClampNeg) = False := by decide
  have c5 : (5 : Int32).toNatClampNeg = 5 := by decide
  unfold mi_X8_quietIn mi_X9_quietIn
  simp only [b5, if_false]
  simp only [c5]
  rw [r1, r2, mz_ob, show mi_X9_copies F J 0 7 = some J2 from e1, mz_ob, show I 5 1 = nI (mz_nm A) from n1, show mi_X1_isSticking I 1 = _ from n2]
  by_cases c : mz_nm A = 0
  · rw [if_pos (show nI (mz_nm A) = 0 by rw [c]; rfl), if_pos (show nI (mz_nm A) ≤ 0 from zl_le (b := 0) (by omega) (by omega))]
    obtain ⟨J1, f1, f2⟩ := zr_uqL (F := F) (b := 1239) (by omega) (by omega) F 0 A J2 hJ2 hW (Or.inl c) (by omega)
    have h0 : sp_uq F A = 0 := by
      obtain ⟨G, rfl⟩ : ∃ G, F = G + 1 := ⟨F - 1, by omega⟩
      show (if mz_nm A = 0 then 0 else _) = _
      rw [if_pos c]
    rw [h0] at f1
    exact ⟨I, J1, _, rfl, zz_fr.rfl, f1, e2.trans f2⟩
  · rw [if_neg (show ¬ nI (mz_nm A) = 0 from fun q => c ((nI_eq (b := 0) (by omega) (by omega)).mp q)), if_neg (show ¬ nI (mz_nm A) ≤ 0 from zl_nle (b := 0) (by omega) (by omega))]
    by_cases c3 : mz_cs A < 6
    · rw [if_pos c3, if_pos rfl, if_neg (show ¬ nI (mz_cs A) = 6 from fun q => by have := (nI_eq (b := 6) (by omega) (by omega)).mp q; omega)]
      obtain ⟨I2, d1, d2, d3⟩ := zc_copyFrom (F := F) (by omega) hR36 hR (by omega) hW hC
      obtain ⟨I1, g1, g2⟩ := zc_uqL (F := F) (st := mz_s0 A) (by omega) hR36 F 0 0 A I2 d3 hW c3 (by omega) (by omega) (Int32.add_zero _).symm
      obtain ⟨J1, f1, f2⟩ := zr_uqL (F := F) (b := 1239) (by omega) (by omega) F 0 A J2 hJ2 hW (Or.inr c3) (by omega)
      rw [sp_uq_fuel F 1100 A hW (Or.inr c3) (by omega) (by omega)] at f1
      have : mi_X5_runUntilQuiet F I2 R 36 = some (I1, nI (0 + sp_uq 1100 A)) := by
        unfold mi_X5_runUntilQuiet
        simp only [mz_bn]
        rw [zc_s0 d3]
        exact g1
      rw [d1, mz_ob, this, mz_ob2]
      exact ⟨I1, J1, _, rfl, d2.trans g2, f1, e2.trans f2⟩
    · rw [if_neg c3, if_neg (show ¬ (1 : Int32) = 0 by decide), if_pos (show nI (mz_cs A) = 6 by rw [show mz_cs A = 6 by omega]; rfl)]
      exact ⟨I, J, _, rfl, zz_fr.rfl, rfl, zz_frJ.rfl⟩

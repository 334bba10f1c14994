/-! layers, the worst, counts -/
theorem zq_openL {I : Nat → Nat → Int32} {R : Nat → Nat → Option Nat} {J : Nat → Nat → Int32} {F ly p sl lo nb nm : Nat} {mb ms : Nat → Nat} {sc : Nat → Int32} {bt : Nat → Nat → Int32} (hC : zz_CS I R 0 (p, sl, lo, nb, nm, mb, ms, sc, bt)) (hR : zz_RW R 0) (hW : zz_WF (p, sl, lo, nb, nm, mb, ms, sc, bt)) (hJ : zz_RS J 0 (p, sl, lo, nb, nm, mb, ms, sc, bt)) (hly : ly ≤ 9) : ∀ (n d i : Nat) (v : Int32), i + d = nb → d < n → ∃ r, mi_X5_openInLayer_L4 F n I R 0 (nI ly) v (nI i) = some r ∧ mi_X9_bottlesIn_L5 F n J (nI ly) 0 v (nI i) = some r := by
  have hS := fun k hk => zr_isShut (k := k) hJ hk hW
  obtain ⟨⟨w1, w2, w3, w4, w5⟩, x1, x2, x3, x4, x5⟩ := hW
  obtain ⟨⟨h0, h1, h2, h3, h4, h5, h6, -⟩, -, -, hb⟩ := hC
  obtain ⟨⟨-, j1, j2, j3, j4, j5⟩, js, -, jb⟩ := hJ
  have j1' := j1
  rw [Nat.zero_add] at j1 j4
  have hcnt : mi_X9_counted J 0 = some (nI (sp_cs sl lo)) := zr_counted (b := 0) (by omega) j2 j3 w2 w3
  intro n
  induction n with
  | zero => intro d i v _ h; omega
  | succ n ih =>
    intro d i v hid hdn
    show ∃ r, mi_X5_openInLayer_B4 _ F I R _ _ _ _ = some r ∧ mi_X9_bottlesIn_B5 _ F J _ _ _ _ = some r
    unfold mi_X5_openInLayer_B4 mi_X9_bottlesIn_B5
    rw [h3]
    have b4 : ((4 : Int32) < 0 ∨ 1416 ≤ (4 : Int32).toNatClampNeg) = False := by decide
    have c4 : (4 : Int32).toNatClampNeg = 4 := by decide
    simp only [b4, if_false]
    simp only [c4]
    rw [j4]
    cases d with
    | zero =>
      rw [if_pos (zl_le (by omega) (by omega)), if_pos (zl_le (by omega) (by omega))]
      exact ⟨_, rfl, rfl⟩
    | succ d =>
      have hi : i < nb := by omega
      have hmk := x1 i hi
      have e1 : nI i + 1 = nI (i + 1) := nI_add i 1
      have go : ∀ v1 : Int32, ∃ r, mi_X5_openInLayer_L4 F n I R 0 (nI ly) v1 (nI (i + 1)) = some r ∧ mi_X9_bottlesIn_L5 F n J (nI ly) 0 v1 (nI (i + 1)) = some r := fun v1 => ih d (i + 1) v1 (by omega) (by omega)
      have f0 : ∀ z : Int32, z + mi_X9_flag 0 = z := fun z => Int32.add_zero z
      have f1 : ∀ z : Int32, z + mi_X9_flag 1 = z + 1 := fun z => rfl
      rw [if_neg (zl_nle hi (by omega)), if_neg (zl_nle hi (by omega)), zc_bottleAt hR h3 w4 hi, mz_ob, mz_oms, (hb i hi).2.2.2.1, (hb i hi).1, zc_inw h0 w1 hmk, zc_depthOf h0 h1 h2 w2 w3 w1 hmk, mz_ob, hS i hi, mz_ob, show mi_X9_metre J 0 (nI i) = some (nI (p - mb i)) from zr_metre (b := 0) (by omega) (by omega) j1' (jb i hi).1 w1 hmk, mz_ob, hcnt, mz_ob, zr_deep (by omega) (sp_cs_le _ _)]
      have hdl := sp_dep_le (m := p - mb i) (c := sp_cs sl lo) (by omega)
      have hll := sp_lay_le (sp_dep (p - mb i) (sp_cs sl lo))
      rw [zr_layerOf (by omega), zc_layerAt (by omega)]
      unfold mi_X9_bottlesIn_J60
      rw [hS i hi, show mi_X9_isInWater J 0 (nI i) = _ from zr_inw (b := 0) (by omega) (by omega) j1' (jb i hi).1 w1 hmk]
      simp only [mz_ob, mz_bn, e1, f0, f1]
      show ∃ r, (if bt i 1 = 0 then _ else _) = some r ∧ _
      by_cases ct : bt i 1 = 0
      · rw [show (if mz_bt (p, sl, lo, nb, nm, mb, ms, sc, bt) i 1 = 0 then (0 : Int32) else 1) = 0 from if_pos ct, if_pos ct]
        simp only [if_true]
        by_cases cl : sp_lay (sp_dep (p - mb i) (sp_cs sl lo)) = ly
        · rw [if_pos (show nI (sp_lay (sp_dep (p - mb i) (sp_cs sl lo))) = nI ly by rw [cl]), if_pos (show nI (sp_lay (sp_dep (p - mb i) (sp_cs sl lo))) = nI ly by rw [cl])]
          by_cases cw : p ≤ mb i
          · rw [if_pos cw, if_pos cw, if_pos rfl, mz_ob, if_pos rfl]
            exact go _
          · rw [if_neg cw, if_neg cw, if_neg (by decide), mz_ob, if_neg (by decide)]
            exact go _
        · rw [if_neg (show ¬ nI (sp_lay (sp_dep (p - mb i) (sp_cs sl lo))) = nI ly from fun q => cl ((nI_eq (by omega) (by omega)).mp q)), if_neg (show ¬ nI (sp_lay (sp_dep (p - mb i) (sp_cs sl lo))) = nI ly from fun q => cl ((nI_eq (by omega) (by omega)).mp q))]
          by_cases cw : p ≤ mb i
          · rw [if_pos cw, if_pos rfl]
            exact go _
          · rw [if_neg cw, if_neg (by decide)]
            exact go _
      · rw [show (if mz_bt (p, sl, lo, nb, nm, mb, ms, sc, bt) i 1 = 0 then (0 : Int32) else 1) = 1 from if_neg ct, if_neg ct, if_neg (show ¬ (1 : Int32) = 0 by decide)]
        have g10 : (((mi_X9_bottleAt 0 (nI i) + 10) < 0 ∨ 1416 ≤ (mi_X9_bottleAt 0 (nI i) + 10).toNatClampNeg)) = False := by
          rw [zr_bAt]
          simp (disch := omega) only [zi_lit, zi_add, zi_mul, zi_le, zi_lt, zi_cl, Nat.not_lt_zero, zn_nle, zn_yle, zn_nlt, zn_ylt, if_false, if_true, or_false, false_or, mz_bn]
        simp only [g10, if_false]
        rw [if_neg (show ¬ (1 : Int32) = 0 by decide)]
        exact go _
theorem zq_shutL {I : Nat → Nat → Int32} {R : Nat → Nat → Option Nat} {J : Nat → Nat → Int32} {F ly p sl lo nb nm : Nat} {mb ms : Nat → Nat} {sc : Nat → Int32} {bt : Nat → Nat → Int32} (hC : zz_CS I R 0 (p, sl, lo, nb, nm, mb, ms, sc, bt)) (hR : zz_RW R 0) (hW : zz_WF (p, sl, lo, nb, nm, mb, ms, sc, bt)) (hJ : zz_RS J 0 (p, sl, lo, nb, nm, mb, ms, sc, bt)) (hly : ly ≤ 9) : ∀ (n d i : Nat) (v : Int32), i + d = nb → d < n → ∃ r, mi_X5_shutInLayer_L4 F n I R 0 (nI ly) v (nI i) = some r ∧ mi_X9_bottlesIn_L5 F n J (nI ly) 1 v (nI i) = some r := by
  have hS := fun k hk => zr_isShut (k := k) hJ hk hW
  obtain ⟨⟨w1, w2, w3, w4, w5⟩, x1, x2, x3, x4, x5⟩ := hW
  obtain ⟨⟨h0, h1, h2, h3, h4, h5, h6, -⟩, -, -, hb⟩ := hC
  obtain ⟨⟨-, j1, j2, j3, j4, j5⟩, js, -, jb⟩ := hJ
  have j1' := j1
  rw [Nat.zero_add] at j1 j4
  have hcnt : mi_X9_counted J 0 = some (nI (sp_cs sl lo)) := zr_counted (b := 0) (by omega) j2 j3 w2 w3
  intro n
  induction n with
  | zero => intro d i v _ h; omega
  | succ n ih =>
    intro d i v hid hdn
    show ∃ r, mi_X5_shutInLayer_B4 _ F I R _ _ _ _ = some r ∧ mi_X9_bottlesIn_B5 _ F J _ _ _ _ = some r
    unfold mi_X5_shutInLayer_B4 mi_X9_bottlesIn_B5
    rw [h3]
    have b4 : ((4 : Int32) < 0 ∨ 1416 ≤ (4 : Int32).toNatClampNeg) = False := by decide
    have c4 : (4 : Int32).toNatClampNeg = 4 := by decide
    simp only [b4, if_false]
    simp only [c4]
    rw [j4]
    cases d with
    | zero =>
      rw [if_pos (zl_le (by omega) (by omega)), if_pos (zl_le (by omega) (by omega))]
      exact ⟨_, rfl, rfl⟩
    | succ d =>
      have hi : i < nb := by omega
      have hmk := x1 i hi
      have e1 : nI i + 1 = nI (i + 1) := nI_add i 1
      have go : ∀ v1 : Int32, ∃ r, mi_X5_shutInLayer_L4 F n I R 0 (nI ly) v1 (nI (i + 1)) = some r ∧ mi_X9_bottlesIn_L5 F n J (nI ly) 1 v1 (nI (i + 1)) = some r := fun v1 => ih d (i + 1) v1 (by omega) (by omega)
      have f0 : ∀ z : Int32, z + mi_X9_flag 0 = z := fun z => Int32.add_zero z
      have f1 : ∀ z : Int32, z + mi_X9_flag 1 = z + 1 := fun z => rfl
      have g10' : J 1 (33 + 12 * i + 10) = bt i 10 := by have := (jb i hi).2 10 (by omega) (by omega); rw [Nat.zero_add] at this; exact this
      have g10 : (((mi_X9_bottleAt 0 (nI i) + 10) < 0 ∨ 1416 ≤ (mi_X9_bottleAt 0 (nI i) + 10).toNatClampNeg)) = False := by
        rw [zr_bAt]
        simp (disch := omega) only [zi_lit, zi_add, zi_mul, zi_le, zi_lt, zi_cl, Nat.not_lt_zero, zn_nle, zn_yle, zn_nlt, zn_ylt, if_false, if_true, or_false, false_or, mz_bn]
      have e10 : (mi_X9_bottleAt 0 (nI i) + 10).toNatClampNeg = 33 + 12 * i + 10 := by
        rw [zr_bAt]
        simp (disch := omega) only [zi_lit, zi_add, zi_mul, zi_le, zi_lt, zi_cl, Nat.not_lt_zero, zn_nle, zn_yle, zn_nlt, zn_ylt, if_false, if_true, or_false, false_or, mz_bn]
      rw [if_neg (zl_nle hi (by omega)), if_neg (zl_nle hi (by omega)), zc_bottleAt hR h3 w4 hi, mz_ob, mz_oms, (hb i hi).2.2.2.1, hS i hi, mz_ob, show mi_X9_metre J 0 (nI i) = some (nI (p - mb i)) from zr_metre (b := 0) (by omega) (by omega) j1' (jb i hi).1 w1 hmk, mz_ob, hcnt, mz_ob]
      simp only [g10, if_false]
      rw [e10, g10']
      unfold mi_X9_bottlesIn_J60
      rw [hS i hi]
      simp only [mz_ob, mz_bn, e1, f0, f1]
      show ∃ r, (if bt i 1 = 0 then _ else _) = some r ∧ _
      by_cases ct : bt i 1 = 0
      · rw [show (if mz_bt (p, sl, lo, nb, nm, mb, ms, sc, bt) i 1 = 0 then (0 : Int32) else 1) = 0 from if_pos ct, if_pos ct, if_pos rfl, if_neg (show ¬ (0 : Int32) = 1 by decide)]
        exact go _
      · have ct1 := ((x5 i hi).1).resolve_left ct
        have f7 := ((hb i hi).2.2.2.2.2 ct1).2.2.1
        rw [show (if mz_bt (p, sl, lo, nb, nm, mb, ms, sc, bt) i 1 = 0 then (0 : Int32) else 1) = 1 from if_neg ct, if_neg ct, if_neg (show ¬ (1 : Int32) = 0 by decide), f7]
        simp only [if_true]
        by_cases cl : bt i 10 = nI ly
        · rw [if_pos cl, if_pos cl, if_neg (show ¬ (1 : Int32) = 0 by decide)]
          exact go _
        · rw [if_neg cl, if_neg cl]
          exact go _
theorem zq_layer {I : Nat → Nat → Int32} {R : Nat → Nat → Option Nat} {J : Nat → Nat → Int32} {A : mz_A} {F : Nat} (hF : 20 ≤ F) (x y : Int32) (hC : zz_CS I R 0 A) (hR : zz_RW R 0) (hW : zz_WF A) (hJ : zz_RS J 0 A) : ∃ r, mi_X8_layer F I R x y = some r ∧ mi_X9_layer F J x y = some r := by
  obtain ⟨p, sl, lo, nb, nm, mb, ms, sc, bt⟩ := A
  have hn : nb ≤ 10 := hW.1.2.2.2.1
  unfold mi_X8_layer mi_X9_layer
  rcases zn_ix x (n := 9) (by omega) with h | h | ⟨j, hj, rfl⟩
  · rw [show mi_X7_has 2 x = 0 by unfold mi_X7_has; rw [if_pos h], if_pos rfl, zr_in0 (Or.inl h), if_pos rfl]
    exact ⟨_, rfl, rfl⟩
  · have h9 : (10 : Int32) ≤ x := zn_hi h (by omega)
    rw [show mi_X7_has 2 x = 0 by unfold mi_X7_has; rw [if_neg (zn_hi0 h (by omega)), if_pos h9], if_pos rfl, zr_in0 (Or.inr (show (9 : Int32) < x from h)), if_pos rfl]
    exact ⟨_, rfl, rfl⟩
  · rw [zc_has (by omega), if_neg (show ¬ (1 : Int32) = 0 by decide), show mi_X9_in (nI j) 0 9 = 1 from zr_inN (lo := 0) (hi := 9) (by omega) hj (by omega), if_neg (show ¬ (1 : Int32) = 0 by decide)]
    have bad : (y < 0 ∨ 3 < y) → (∀ q : Nat, q ≤ 3 → ¬ y = nI q) := fun h q hq e => by
      subst e
      rcases h with h | h
      · exact absurd h (zl_nlt (b := 0) (by omega) (by omega))
      · exact absurd h (zl_nlt (a := 3) (by omega) (by omega))
    have badgo : (y < 0 ∨ 3 < y) → ∃ r, (if y = 0 then mc_ob (mi_X7_warmthIn I 2 (nI j)) fun r5 => some r5 else if y = 1 then mc_ob (mi_X7_saltIn I 2 (nI j)) fun r8 => some r8 else if y = 2 then mc_ob (mi_X5_openInLayer F I R 0 (nI j)) fun r11 => some r11 else if y = 3 then mc_ob (mi_X5_shutInLayer F I R 0 (nI j)) fun r14 => some r14 else some (-1002)) = some r ∧ (if mi_X9_in y 0 3 = 0 then some (-1002) else if 2 ≤ y then if y = 3 then mc_ob (mi_X9_bottlesIn F J (nI j) 1) fun r11 => some r11 else mc_ob (mi_X9_bottlesIn F J (nI j) 0) fun r9 => some r9 else if (((13 + (2 * nI j)) + y) < 0 ∨ 1416 ≤ ((13 + (2 * nI j)) + y).toNatClampNeg) then none else some (J 1 ((13 + (2 * nI j)) + y).toNatClampNeg)) = some r := fun h => by
      have ne := bad h
      refine ⟨-1002, ?_, ?_⟩
      · rw [if_neg (show ¬ y = 0 from ne 0 (by omega)), if_neg (show ¬ y = 1 from ne 1 (by omega)), if_neg (show ¬ y = 2 from ne 2 (by omega)), if_neg (show ¬ y = 3 from ne 3 (by omega))]
      · rw [zr_in0 h, if_pos rfl]
    rcases zn_ix y (n := 3) (by omega) with h | h | ⟨q, hq, rfl⟩
    · exact badgo (Or.inl h)
    · exact badgo (Or.inr h)
    · have js := hJ.2.1
      have e13 : J 1 (13 + 2 * j) = sc (13 + 2 * j) := by have := js (13 + 2 * j) (by omega) (by omega); rw [Nat.zero_add] at this; exact this
      have e14 : J 1 (13 + 2 * j + 1) = sc (14 + 2 * j) := by rw [show 13 + 2 * j + 1 = 14 + 2 * j by omega]; have := js (14 + 2 * j) (by omega) (by omega); rw [Nat.zero_add] at this; exact this
      obtain ⟨r1, o1, o2⟩ := zq_openL (F := F) (ly := j) hC hR hW hJ hj F nb 0 0 (by omega) (by omega)
      obtain ⟨r2, o3, o4⟩ := zq_shutL (F := F) (ly := j) hC hR hW hJ hj F nb 0 0 (by omega) (by omega)
      rw [zc_warmthIn (by omega), zc_saltIn (by omega), show mi_X5_openInLayer F I R 0 (nI j) = some r1 from o1, show mi_X5_shutInLayer F I R 0 (nI j) = some r2 from o3, show mi_X9_bottlesIn F J (nI j) 0 = some r1 from o2, show mi_X9_bottlesIn F J (nI j) 1 = some r2 from o4]
      simp only [mz_ob]
      have hw := hC.2.1 j (by omega)
      rw [Nat.zero_add, Nat.zero_add] at hw
      rw [show I (2 + 1) j = sc (13 + 2 * j) from hw.1, show I (2 + 2) j = sc (14 + 2 * j) from hw.2]
      rcases (show q = 0 ∨ q = 1 ∨ q = 2 ∨ q = 3 by omega) with rfl | rfl | rfl | rfl
      · refine ⟨sc (13 + 2 * j), ?_, ?_⟩ <;> repeat (first | rw [if_neg (by decide)] | rw [if_pos (by decide)])
        simp (disch := omega) only [zi_lit, zi_add, zi_mul, zi_le, zi_lt, zi_cl, Nat.not_lt_zero, zn_nle, zn_yle, zn_nlt, zn_ylt, if_false, if_true, or_false, false_or, mz_bn]
        rw [Nat.add_zero, e13]
      · refine ⟨sc (14 + 2 * j), ?_, ?_⟩ <;> repeat (first | rw [if_neg (by decide)] | rw [if_pos (by decide)])
        simp (disch := omega) only [zi_lit, zi_add, zi_mul, zi_le, zi_lt, zi_cl, Nat.not_lt_zero, zn_nle, zn_yle, zn_nlt, zn_ylt, if_false, if_true, or_false, false_or, mz_bn]
        rw [e14]
      · refine ⟨r1, ?_, ?_⟩ <;> repeat (first | rw [if_neg (by decide)] | rw [if_pos (by decide)])
      · refine ⟨r2, ?_, ?_⟩ <;> repeat (first | rw [if_neg (by decide)] | rw [if_pos (by decide)])
theorem zq_worstL {I : Nat → Nat → Int32} {R : Nat → Nat → Option Nat} {J : Nat → Nat → Int32} {F p sl lo nb nm : Nat} {mb ms : Nat → Nat} {sc : Nat → Int32} {bt : Nat → Nat → Int32} (hC : zz_CS I R 0 (p, sl, lo, nb, nm, mb, ms, sc, bt)) (hR : zz_RW R 0) (hW : zz_WF (p, sl, lo, nb, nm, mb, ms, sc, bt)) (hJ : zz_RS J 0 (p, sl, lo, nb, nm, mb, ms, sc, bt)) : ∀ (n d i : Nat) (u v : Int32), i + d = nb → d < n → ∃ r, mi_X8_worst_L8 F n I R u v (nI i) = some r ∧ mi_X9_worst_L8 F n J u v (nI i) = some r := by
  have hS := fun k hk => zr_isShut (k := k) hJ hk hW
  have hD := fun k hk => zr_diff (k := k) hJ hk hW.1.2.2.2.1
  obtain ⟨⟨w1, w2, w3, w4, w5⟩, x1, x2, x3, x4, x5⟩ := hW
  obtain ⟨⟨h0, h1, h2, h3, h4, h5, h6, -⟩, -, -, hb⟩ := hC
  obtain ⟨⟨-, j1, j2, j3, j4, j5⟩, js, -, jb⟩ := hJ
  rw [Nat.zero_add] at j1 j4
  intro n
  induction n with
  | zero => intro d i u v _ h; omega
  | succ n ih =>
    intro d i u v hid hdn
    show ∃ r, mi_X8_worst_B8 _ F I R _ _ _ = some r ∧ mi_X9_worst_B8 _ F J _ _ _ = some r
    unfold mi_X8_worst_B8 mi_X9_worst_B8
    rw [h3]
    have b4 : ((4 : Int32) < 0 ∨ 1416 ≤ (4 : Int32).toNatClampNeg) = False := by decide
    have c4 : (4 : Int32).toNatClampNeg = 4 := by decide
    simp only [b4, if_false]
    simp only [c4]
    rw [j4]
    cases d with
    | zero =>
      rw [if_pos (zl_le (by omega) (by omega)), if_pos (zl_le (by omega) (by omega))]
      exact ⟨_, rfl, rfl⟩
    | succ d =>
      have hi : i < nb := by omega
      have e1 : nI i + 1 = nI (i + 1) := nI_add i 1
      have go : ∀ u1 v1 : Int32, ∃ r, mi_X8_worst_L8 F n I R u1 v1 (nI (i + 1)) = some r ∧ mi_X9_worst_L8 F n J u1 v1 (nI (i + 1)) = some r := fun u1 v1 => ih d (i + 1) u1 v1 (by omega) (by omega)
      rw [if_neg (zl_nle hi (by omega)), if_neg (zl_nle hi (by omega)), zc_bottleAt hR h3 w4 hi, mz_ob, mz_oms, (hb i hi).2.2.2.1, hS i hi, mz_ob, (hD i hi).1, mz_ob]
      unfold mi_X9_worst_J40 mi_X9_worst_J52
      rw [(hD i hi).1]
      simp only [mz_ob, mz_bn, e1]
      by_cases ct : bt i 1 = 0
      · rw [show (if mz_bt (p, sl, lo, nb, nm, mb, ms, sc, bt) i 1 = 0 then (0 : Int32) else 1) = 0 from if_pos ct, if_pos ct]
        simp only [if_true]
        exact go _ _
      · have ct1 := ((x5 i hi).1).resolve_left ct
        rw [show (if mz_bt (p, sl, lo, nb, nm, mb, ms, sc, bt) i 1 = 0 then (0 : Int32) else 1) = 1 from if_neg ct, if_neg ct, if_neg (show ¬ (1 : Int32) = 0 by decide), zc_diff (hb i hi) ct1, show sp_df (mz_bt (p, sl, lo, nb, nm, mb, ms, sc, bt) i) = sp_df (bt i) from rfl]
        by_cases cd : sp_df (bt i) ≤ v
        · rw [if_pos cd, if_pos cd]
          simp only [if_true]
          exact go _ _
        · rw [if_neg cd, if_neg cd, if_neg (show ¬ (1 : Int32) = 0 by decide), if_neg (show ¬ (1 : Int32) = 0 by decide)]
          exact go _ _
theorem zq_worst {I : Nat → Nat → Int32} {R : Nat → Nat → Option Nat} {J : Nat → Nat → Int32} {A : mz_A} {F : Nat} (hF : 20 ≤ F) (hC : zz_CS I R 0 A) (hR : zz_RW R 0) (hW : zz_WF A) (hJ : zz_RS J 0 A) : ∃ r, mi_X8_worst F I R = some r ∧ mi_X9_worst F J = some r := by
  obtain ⟨p, sl, lo, nb, nm, mb, ms, sc, bt⟩ := A
  have hn : nb ≤ 10 := hW.1.2.2.2.1
  exact zq_worstL hC hR hW hJ F nb 0 _ _ (by omega) (by omega)

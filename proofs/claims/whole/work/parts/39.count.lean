/-! counts (by wip/whole/gen/gen_count.py) -/
theorem zq_inWaterL {I : Nat → Nat → Int32} {R : Nat → Nat → Option Nat} {J : Nat → Nat → Int32} {F p sl lo nb nm : Nat} {mb ms : Nat → Nat} {sc : Nat → Int32} {bt : Nat → Nat → Int32} (hC : zz_CS I R 0 (p, sl, lo, nb, nm, mb, ms, sc, bt)) (hR : zz_RW R 0) (hW : zz_WF (p, sl, lo, nb, nm, mb, ms, sc, bt)) (hJ : zz_RS J 0 (p, sl, lo, nb, nm, mb, ms, sc, bt)) : ∀ (n d i : Nat) (v : Int32), i + d = nb → d < n → ∃ r, mi_X5_bottlesInWater_L4 F n I R 0 v (nI i) = some r ∧ mi_X9_many_L4 F n J 0 v (nI i) = some r := by
  have hS := fun k hk => zr_isShut (k := k) hJ hk hW
  have hD := fun k hk => zr_diff (k := k) hJ hk hW.1.2.2.2.1
  obtain ⟨⟨w1, w2, w3, w4, w5⟩, x1, x2, x3, x4, x5⟩ := hW
  obtain ⟨⟨h0, h1, h2, h3, h4, h5, h6, -⟩, -, -, hb⟩ := hC
  obtain ⟨⟨-, j1, j2, j3, j4, j5⟩, js, -, jb⟩ := hJ
  have j1' := j1
  rw [Nat.zero_add] at j1 j4
  have s11 : J 1 11 = sc 11 := by have := js 11 (by omega) (by omega); rw [Nat.zero_add] at this; exact this
  intro n
  induction n with
  | zero => intro d i v _ h; omega
  | succ n ih =>
    intro d i v hid hdn
    show ∃ r, mi_X5_bottlesInWater_B4 _ F I R _ _ _ = some r ∧ mi_X9_many_B4 _ F J _ _ _ = some r
    unfold mi_X5_bottlesInWater_B4 mi_X9_many_B4
    rw [h3]
    have b4 : ((4 : Int32) < 0 ∨ 1416 ≤ (4 : Int32).toNatClampNeg) = False := by decide
    have c4 : (4 : Int32).toNatClampNeg = 4 := by decide
    have b11 : ((11 : Int32) < 0 ∨ 1416 ≤ (11 : Int32).toNatClampNeg) = False := by decide
    have c11 : (11 : Int32).toNatClampNeg = 11 := by decide
    simp only [b4, b11, if_false]
    simp only [c4, c11]
    rw [j4]
    cases d with
    | zero =>
      rw [if_pos (zl_le (by omega) (by omega)), if_pos (zl_le (by omega) (by omega))]
      exact ⟨_, rfl, rfl⟩
    | succ d =>
      have hi : i < nb := by omega
      have hmk := x1 i hi
      have e1 : nI i + 1 = nI (i + 1) := nI_add i 1
      have go : ∀ v1 : Int32, ∃ r, mi_X5_bottlesInWater_L4 F n I R 0 v1 (nI (i + 1)) = some r ∧ mi_X9_many_L4 F n J 0 v1 (nI (i + 1)) = some r := fun v1 => ih d (i + 1) v1 (by omega) (by omega)
      have f0 : ∀ z : Int32, z + mi_X9_flag 0 = z := fun z => Int32.add_zero z
      have f1 : ∀ z : Int32, z + mi_X9_flag 1 = z + 1 := fun z => rfl
      rw [if_neg (zl_nle hi (by omega)), if_neg (zl_nle hi (by omega)), zc_bottleAt hR h3 w4 hi, mz_ob, mz_oms]
      rw [(hb i hi).1, zc_inw h0 w1 hmk, show mi_X9_isInWater J 0 (nI i) = _ from zr_inw (b := 0) (by omega) (by omega) j1' (jb i hi).1 w1 hmk]
      simp only [mz_bn, e1, if_true]
      by_cases cw : p ≤ mb i
      · rw [if_pos cw, if_pos cw, if_pos rfl, mz_ob, f0]
        exact go _
      · rw [if_neg cw, if_neg cw, if_neg (show ¬ (1 : Int32) = 0 by decide), mz_ob, f1]
        exact go _
theorem zq_shutsL {I : Nat → Nat → Int32} {R : Nat → Nat → Option Nat} {J : Nat → Nat → Int32} {F p sl lo nb nm : Nat} {mb ms : Nat → Nat} {sc : Nat → Int32} {bt : Nat → Nat → Int32} (hC : zz_CS I R 0 (p, sl, lo, nb, nm, mb, ms, sc, bt)) (hR : zz_RW R 0) (hW : zz_WF (p, sl, lo, nb, nm, mb, ms, sc, bt)) (hJ : zz_RS J 0 (p, sl, lo, nb, nm, mb, ms, sc, bt)) : ∀ (n d i : Nat) (v : Int32), i + d = nb → d < n → ∃ r, mi_X5_shutBottles_L4 F n I R 0 v (nI i) = some r ∧ mi_X9_many_L4 F n J 1 v (nI i) = some r := by
  have hS := fun k hk => zr_isShut (k := k) hJ hk hW
  have hD := fun k hk => zr_diff (k := k) hJ hk hW.1.2.2.2.1
  obtain ⟨⟨w1, w2, w3, w4, w5⟩, x1, x2, x3, x4, x5⟩ := hW
  obtain ⟨⟨h0, h1, h2, h3, h4, h5, h6, -⟩, -, -, hb⟩ := hC
  obtain ⟨⟨-, j1, j2, j3, j4, j5⟩, js, -, jb⟩ := hJ
  have j1' := j1
  rw [Nat.zero_add] at j1 j4
  have s11 : J 1 11 = sc 11 := by have := js 11 (by omega) (by omega); rw [Nat.zero_add] at this; exact this
  intro n
  induction n with
  | zero => intro d i v _ h; omega
  | succ n ih =>
    intro d i v hid hdn
    show ∃ r, mi_X5_shutBottles_B4 _ F I R _ _ _ = some r ∧ mi_X9_many_B4 _ F J _ _ _ = some r
    unfold mi_X5_shutBottles_B4 mi_X9_many_B4
    rw [h3]
    have b4 : ((4 : Int32) < 0 ∨ 1416 ≤ (4 : Int32).toNatClampNeg) = False := by decide
    have c4 : (4 : Int32).toNatClampNeg = 4 := by decide
    have b11 : ((11 : Int32) < 0 ∨ 1416 ≤ (11 : Int32).toNatClampNeg) = False := by decide
    have c11 : (11 : Int32).toNatClampNeg = 11 := by decide
    simp only [b4, b11, if_false]
    simp only [c4, c11]
    rw [j4]
    cases d with
    | zero =>
      rw [if_pos (zl_le (by omega) (by omega)), if_pos (zl_le (by omega) (by omega))]
      exact ⟨_, rfl, rfl⟩
    | succ d =>
      have hi : i < nb := by omega
      have hmk := x1 i hi
      have e1 : nI i + 1 = nI (i + 1) := nI_add i 1
      have go : ∀ v1 : Int32, ∃ r, mi_X5_shutBottles_L4 F n I R 0 v1 (nI (i + 1)) = some r ∧ mi_X9_many_L4 F n J 1 v1 (nI (i + 1)) = some r := fun v1 => ih d (i + 1) v1 (by omega) (by omega)
      have f0 : ∀ z : Int32, z + mi_X9_flag 0 = z := fun z => Int32.add_zero z
      have f1 : ∀ z : Int32, z + mi_X9_flag 1 = z + 1 := fun z => rfl
      rw [if_neg (zl_nle hi (by omega)), if_neg (zl_nle hi (by omega)), zc_bottleAt hR h3 w4 hi, mz_ob, mz_oms]
      rw [(hb i hi).2.2.2.1, if_neg (show ¬ (1 : Int32) = 0 by decide), hS i hi, mz_ob]
      simp only [mz_bn, e1, f0, f1]
      by_cases ct : bt i 1 = 0
      · rw [show (if mz_bt (p, sl, lo, nb, nm, mb, ms, sc, bt) i 1 = 0 then (0 : Int32) else 1) = 0 from if_pos ct, if_pos ct, if_pos rfl]
        exact go _
      · rw [show (if mz_bt (p, sl, lo, nb, nm, mb, ms, sc, bt) i 1 = 0 then (0 : Int32) else 1) = 1 from if_neg ct, if_neg ct, if_neg (show ¬ (1 : Int32) = 0 by decide)]
        simp only [if_true]
        exact go _
theorem zq_doubtL {I : Nat → Nat → Int32} {R : Nat → Nat → Option Nat} {J : Nat → Nat → Int32} {F p sl lo nb nm : Nat} {mb ms : Nat → Nat} {sc : Nat → Int32} {bt : Nat → Nat → Int32} (hC : zz_CS I R 0 (p, sl, lo, nb, nm, mb, ms, sc, bt)) (hR : zz_RW R 0) (hW : zz_WF (p, sl, lo, nb, nm, mb, ms, sc, bt)) (hJ : zz_RS J 0 (p, sl, lo, nb, nm, mb, ms, sc, bt)) : ∀ (n d i : Nat) (v : Int32), i + d = nb → d < n → ∃ r, mi_X5_doubtfulBottles_L4 F n I R 0 v (nI i) = some r ∧ mi_X9_many_L4 F n J 2 v (nI i) = some r := by
  have hS := fun k hk => zr_isShut (k := k) hJ hk hW
  have hD := fun k hk => zr_diff (k := k) hJ hk hW.1.2.2.2.1
  obtain ⟨⟨w1, w2, w3, w4, w5⟩, x1, x2, x3, x4, x5⟩ := hW
  obtain ⟨⟨h0, h1, h2, h3, h4, h5, h6, -⟩, -, -, hb⟩ := hC
  obtain ⟨⟨-, j1, j2, j3, j4, j5⟩, js, -, jb⟩ := hJ
  have j1' := j1
  rw [Nat.zero_add] at j1 j4
  have s11 : J 1 11 = sc 11 := by have := js 11 (by omega) (by omega); rw [Nat.zero_add] at this; exact this
  intro n
  induction n with
  | zero => intro d i v _ h; omega
  | succ n ih =>
    intro d i v hid hdn
    show ∃ r, mi_X5_doubtfulBottles_B4 _ F I R _ _ _ = some r ∧ mi_X9_many_B4 _ F J _ _ _ = some r
    unfold mi_X5_doubtfulBottles_B4 mi_X9_many_B4
    rw [h3]
    have b4 : ((4 : Int32) < 0 ∨ 1416 ≤ (4 : Int32).toNatClampNeg) = False := by decide
    have c4 : (4 : Int32).toNatClampNeg = 4 := by decide
    have b11 : ((11 : Int32) < 0 ∨ 1416 ≤ (11 : Int32).toNatClampNeg) = False := by decide
    have c11 : (11 : Int32).toNatClampNeg = 11 := by decide
    simp only [b4, b11, if_false]
    simp only [c4, c11]
    rw [j4]
    cases d with
    | zero =>
      rw [if_pos (zl_le (by omega) (by omega)), if_pos (zl_le (by omega) (by omega))]
      exact ⟨_, rfl, rfl⟩
    | succ d =>
      have hi : i < nb := by omega
      have hmk := x1 i hi
      have e1 : nI i + 1 = nI (i + 1) := nI_add i 1
      have go : ∀ v1 : Int32, ∃ r, mi_X5_doubtfulBottles_L4 F n I R 0 v1 (nI (i + 1)) = some r ∧ mi_X9_many_L4 F n J 2 v1 (nI (i + 1)) = some r := fun v1 => ih d (i + 1) v1 (by omega) (by omega)
      have f0 : ∀ z : Int32, z + mi_X9_flag 0 = z := fun z => Int32.add_zero z
      have f1 : ∀ z : Int32, z + mi_X9_flag 1 = z + 1 := fun z => rfl
      rw [if_neg (zl_nle hi (by omega)), if_neg (zl_nle hi (by omega)), zc_bottleAt hR h3 w4 hi, mz_ob, mz_oms]
      unfold mi_X5_isDoubtful
      rw [(hb i hi).2.2.2.1, h6, if_neg (show ¬ (2 : Int32) = 0 by decide), hS i hi, mz_ob, if_neg (show ¬ (2 : Int32) = 1 by decide), (hD i hi).1, mz_ob, s11]
      simp only [mz_bn, e1, f0, f1]
      by_cases ct : bt i 1 = 0
      · rw [show (if mz_bt (p, sl, lo, nb, nm, mb, ms, sc, bt) i 1 = 0 then (0 : Int32) else 1) = 0 from if_pos ct, if_pos ct, if_pos rfl, if_pos rfl]
        exact go _
      · have ct1 := ((x5 i hi).1).resolve_left ct
        rw [show (if mz_bt (p, sl, lo, nb, nm, mb, ms, sc, bt) i 1 = 0 then (0 : Int32) else 1) = 1 from if_neg ct, if_neg ct, if_neg (show ¬ (1 : Int32) = 0 by decide), zc_diff (hb i hi) ct1, show sp_df (mz_bt (p, sl, lo, nb, nm, mb, ms, sc, bt) i) = sp_df (bt i) from rfl]
        by_cases cd : sp_df (bt i) ≤ sc 11
        · rw [if_pos cd, if_pos cd, if_pos rfl]
          exact go _
        · rw [if_neg cd, if_neg cd, if_neg (show ¬ (1 : Int32) = 0 by decide)]
          exact go _
theorem zq_count {I : Nat → Nat → Int32} {R : Nat → Nat → Option Nat} {J : Nat → Nat → Int32} {A : mz_A} {F : Nat} (hF : 20 ≤ F) (x : Int32) (hC : zz_CS I R 0 A) (hR : zz_RW R 0) (hW : zz_WF A) (hJ : zz_RS J 0 A) (hst : I 145 1 = J 0 1) (htx : I 147 1 = J 0 4) : ∃ r, mi_X8_count F I R x = some r ∧ mi_X9_count F J x = some r := by
  obtain ⟨p, sl, lo, nb, nm, mb, ms, sc, bt⟩ := A
  have hn : nb ≤ 10 := hW.1.2.2.2.1
  obtain ⟨r1, a1, a2⟩ := zq_inWaterL (F := F) hC hR hW hJ F nb 0 0 (by omega) (by omega)
  obtain ⟨r2, a3, a4⟩ := zq_shutsL (F := F) hC hR hW hJ F nb 0 0 (by omega) (by omega)
  obtain ⟨r3, a5, a6⟩ := zq_doubtL (F := F) hC hR hW hJ F nb 0 0 (by omega) (by omega)
  obtain ⟨⟨w1, w2, w3, w4, w5⟩, -⟩ := hW
  obtain ⟨⟨h0, h1, h2, h3, h4, h5, h6, h7, h8, h9, h10, h11, h12⟩, -, -, hb⟩ := hC
  obtain ⟨⟨j0, j1, j2, j3, j4, j5⟩, js, -, jb⟩ := hJ
  have js' : ∀ q, 6 ≤ q → q < 13 → J 1 q = sc q := fun q q1 q2 => by have := js q q1 (by omega); rw [Nat.zero_add] at this; exact this
  have hcnt : mi_X9_counted J 0 = some (nI (sp_cs sl lo)) := zr_counted (b := 0) (by omega) j2 j3 w2 w3
  rw [Nat.zero_add] at j1 j2 j3 j4 j5
  have hlo : (if nI lo = 0 then (some 0 : Option Int32) else some 1) = some (nI lo) := by
    rcases (show lo = 0 ∨ lo = 1 by omega) with rfl | rfl <;> rfl
  have cl : mi_X8_count F I R x = if x < 0 then some (-1002) else if x ≤ 18 then if 8 < x then some (mi_X8_countOthers I x) else mi_X8_countOnCable F I R x else some (-1002) := by
    unfold mi_X8_count
    have eta : ∀ z : Option Int32, (mc_ob z fun r => some r) = z := fun z => by cases z <;> rfl
    rw [eta]
  rcases zn_ix x (n := 18) (by omega) with h | h | ⟨j, hj, rfl⟩
  · refine ⟨-1002, by rw [cl, if_pos h], ?_⟩
    have ne : ∀ j : Nat, j ≤ 18 → ¬ x = nI j := fun j hj q => by
      rw [q] at h
      exact absurd h (zl_nlt (b := 0) (by omega) (by omega))
    unfold mi_X9_count
    rw [if_neg (show ¬ x = 0 from ne 0 (by omega)), if_neg (show ¬ x = 1 from ne 1 (by omega)), if_neg (show ¬ x = 2 from ne 2 (by omega)), if_neg (show ¬ x = 3 from ne 3 (by omega)), if_neg (show ¬ x = 4 from ne 4 (by omega)), if_neg (show ¬ x = 5 from ne 5 (by omega)), if_neg (show ¬ x = 6 from ne 6 (by omega)), if_neg (show ¬ x = 7 from ne 7 (by omega)), if_neg (show ¬ x = 8 from ne 8 (by omega)), if_neg (show ¬ x = 9 from ne 9 (by omega)), if_neg (show ¬ x = 10 from ne 10 (by omega)), if_neg (show ¬ x = 11 from ne 11 (by omega)), if_neg (show ¬ x = 12 from ne 12 (by omega)), if_neg (show ¬ x = 13 from ne 13 (by omega)), if_neg (show ¬ x = 14 from ne 14 (by omega)), if_neg (show ¬ x = 15 from ne 15 (by omega)), if_neg (show ¬ x = 16 from ne 16 (by omega)), if_neg (show ¬ x = 17 from ne 17 (by omega)), if_neg (show ¬ x = 18 from ne 18 (by omega)), zr_in0 (Or.inl (show x < 9 from by
      rw [Int32.lt_iff_toInt_lt] at h ⊢
      have e0 : (0 : Int32).toInt = 0 := by decide
      have e1 : (9 : Int32).toInt = 9 := by decide
      omega)), if_pos rfl]
  · have h18 : (18 : Int32) < x := h
    refine ⟨-1002, by rw [cl, if_neg (zn_hi0 h (by omega)), if_neg (zn_nle32 h18)], ?_⟩
    have ne : ∀ j : Nat, j ≤ 18 → ¬ x = nI j := fun j hj q => by
      rw [q] at h
      exact absurd h (zl_nlt (by omega) (by omega))
    unfold mi_X9_count
    rw [if_neg (show ¬ x = 0 from ne 0 (by omega)), if_neg (show ¬ x = 1 from ne 1 (by omega)), if_neg (show ¬ x = 2 from ne 2 (by omega)), if_neg (show ¬ x = 3 from ne 3 (by omega)), if_neg (show ¬ x = 4 from ne 4 (by omega)), if_neg (show ¬ x = 5 from ne 5 (by omega)), if_neg (show ¬ x = 6 from ne 6 (by omega)), if_neg (show ¬ x = 7 from ne 7 (by omega)), if_neg (show ¬ x = 8 from ne 8 (by omega)), if_neg (show ¬ x = 9 from ne 9 (by omega)), if_neg (show ¬ x = 10 from ne 10 (by omega)), if_neg (show ¬ x = 11 from ne 11 (by omega)), if_neg (show ¬ x = 12 from ne 12 (by omega)), if_neg (show ¬ x = 13 from ne 13 (by omega)), if_neg (show ¬ x = 14 from ne 14 (by omega)), if_neg (show ¬ x = 15 from ne 15 (by omega)), if_neg (show ¬ x = 16 from ne 16 (by omega)), if_neg (show ¬ x = 17 from ne 17 (by omega)), if_neg (show ¬ x = 18 from ne 18 (by omega)), zr_in0 (Or.inr (show (16 : Int32) < x from by
      rw [Int32.lt_iff_toInt_lt] at h18 ⊢
      have e0 : (18 : Int32).toInt = 18 := by decide
      have e1 : (16 : Int32).toInt = 16 := by decide
      omega)), if_pos rfl]
  · rw [cl]
    unfold mi_X8_countOnCable mi_X8_countOthers
    rw [show mi_X5_bottlesInWater F I R 0 = some r1 from a1, show mi_X5_shutBottles F I R 0 = some r2 from a3, show mi_X5_doubtfulBottles F I R 0 = some r3 from a5, show I 0 5 = sc 0 from h5, show I 1 0 = nI p from h0, show I 1 1 = nI sl from h1, show I 1 2 = nI lo from h2, show mi_X1_countedSlope I 1 = nI (sp_cs sl lo) from zc_cs h1 h2 w2 w3, h3, show I 5 1 = nI nm from h4, show I 5 2 = sc 6 from h8, show I 5 3 = sc 7 from h9, show I 5 4 = sc 8 from h10, show I 5 5 = sc 9 from h11, show I 5 6 = sc 10 from h12, h6, h7, hst, htx, hlo]
    simp only [mz_ob]
    unfold mi_X9_count
    rw [hcnt]
    simp only [mz_ob]
    rcases (show j = 0 ∨ j = 1 ∨ j = 2 ∨ j = 3 ∨ j = 4 ∨ j = 5 ∨ j = 6 ∨ j = 7 ∨ j = 8 ∨ j = 9 ∨ j = 10 ∨ j = 11 ∨ j = 12 ∨ j = 13 ∨ j = 14 ∨ j = 15 ∨ j = 16 ∨ j = 17 ∨ j = 18 by omega) with rfl | rfl | rfl | rfl | rfl | rfl | rfl | rfl | rfl | rfl | rfl | rfl | rfl | rfl | rfl | rfl | rfl | rfl | rfl
    · refine ⟨sc 0, ?_, ?_⟩
      · repeat (first | rw [if_neg (by decide)] | rw [if_pos (by decide)])
      · repeat (first | rw [if_neg (by decide)] | rw [if_pos (by decide)])
        exact congrArg some (j0)
    · refine ⟨nI p, ?_, ?_⟩
      · repeat (first | rw [if_neg (by decide)] | rw [if_pos (by decide)])
      · repeat (first | rw [if_neg (by decide)] | rw [if_pos (by decide)])
        exact congrArg some (j1)
    · refine ⟨nI sl, ?_, ?_⟩
      · repeat (first | rw [if_neg (by decide)] | rw [if_pos (by decide)])
      · repeat (first | rw [if_neg (by decide)] | rw [if_pos (by decide)])
        exact congrArg some (j2)
    · refine ⟨nI (sp_cs sl lo), ?_, ?_⟩
      · repeat (first | rw [if_neg (by decide)] | rw [if_pos (by decide)])
      · repeat (first | rw [if_neg (by decide)] | rw [if_pos (by decide)])
    · refine ⟨nI lo, ?_, ?_⟩
      · repeat (first | rw [if_neg (by decide)] | rw [if_pos (by decide)])
      · repeat (first | rw [if_neg (by decide)] | rw [if_pos (by decide)])
        exact congrArg some (j3)
    · refine ⟨nI nb, ?_, ?_⟩
      · repeat (first | rw [if_neg (by decide)] | rw [if_pos (by decide)])
      · repeat (first | rw [if_neg (by decide)] | rw [if_pos (by decide)])
        exact congrArg some (j4)
    · refine ⟨r1, ?_, ?_⟩
      · repeat (first | rw [if_neg (by decide)] | rw [if_pos (by decide)])
      · repeat (first | rw [if_neg (by decide)] | rw [if_pos (by decide)])
        rw [show mi_X9_many F J (nI 6 - 6) = some r1 from a2]
        rfl
    · refine ⟨r2, ?_, ?_⟩
      · repeat (first | rw [if_neg (by decide)] | rw [if_pos (by decide)])
      · repeat (first | rw [if_neg (by decide)] | rw [if_pos (by decide)])
        rw [show mi_X9_many F J (nI 7 - 6) = some r2 from a4]
        rfl
    · refine ⟨r3, ?_, ?_⟩
      · repeat (first | rw [if_neg (by decide)] | rw [if_pos (by decide)])
      · repeat (first | rw [if_neg (by decide)] | rw [if_pos (by decide)])
        rw [show mi_X9_many F J (nI 8 - 6) = some r3 from a6]
        rfl
    · refine ⟨nI nm, ?_, ?_⟩
      · repeat (first | rw [if_neg (by decide)] | rw [if_pos (by decide)])
      · repeat (first | rw [if_neg (by decide)] | rw [if_pos (by decide)])
        exact congrArg some (j5)
    · refine ⟨sc 6, ?_, ?_⟩
      · repeat (first | rw [if_neg (by decide)] | rw [if_pos (by decide)])
      · repeat (first | rw [if_neg (by decide)] | rw [if_pos (by decide)])
        exact congrArg some (js' 6 (by omega) (by omega))
    · refine ⟨sc 7, ?_, ?_⟩
      · repeat (first | rw [if_neg (by decide)] | rw [if_pos (by decide)])
      · repeat (first | rw [if_neg (by decide)] | rw [if_pos (by decide)])
        exact congrArg some (js' 7 (by omega) (by omega))
    · refine ⟨sc 8, ?_, ?_⟩
      · repeat (first | rw [if_neg (by decide)] | rw [if_pos (by decide)])
      · repeat (first | rw [if_neg (by decide)] | rw [if_pos (by decide)])
        exact congrArg some (js' 8 (by omega) (by omega))
    · refine ⟨sc 9, ?_, ?_⟩
      · repeat (first | rw [if_neg (by decide)] | rw [if_pos (by decide)])
      · repeat (first | rw [if_neg (by decide)] | rw [if_pos (by decide)])
        exact congrArg some (js' 9 (by omega) (by omega))
    · refine ⟨sc 10, ?_, ?_⟩
      · repeat (first | rw [if_neg (by decide)] | rw [if_pos (by decide)])
      · repeat (first | rw [if_neg (by decide)] | rw [if_pos (by decide)])
        exact congrArg some (js' 10 (by omega) (by omega))
    · refine ⟨sc 11, ?_, ?_⟩
      · repeat (first | rw [if_neg (by decide)] | rw [if_pos (by decide)])
      · repeat (first | rw [if_neg (by decide)] | rw [if_pos (by decide)])
        exact congrArg some (js' 11 (by omega) (by omega))
    · refine ⟨sc 12, ?_, ?_⟩
      · repeat (first | rw [if_neg (by decide)] | rw [if_pos (by decide)])
      · repeat (first | rw [if_neg (by decide)] | rw [if_pos (by decide)])
        exact congrArg some (js' 12 (by omega) (by omega))
    · refine ⟨J 0 1, ?_, ?_⟩
      · repeat (first | rw [if_neg (by decide)] | rw [if_pos (by decide)])
      · repeat (first | rw [if_neg (by decide)] | rw [if_pos (by decide)])
    · refine ⟨J 0 4, ?_, ?_⟩
      · repeat (first | rw [if_neg (by decide)] | rw [if_pos (by decide)])
      · repeat (first | rw [if_neg (by decide)] | rw [if_pos (by decide)])

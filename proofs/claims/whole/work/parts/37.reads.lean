/-! what is asked -/
theorem zq_depth (I : Nat → Nat → Int32) (x y : Int32) : ∃ r, mi_X8_depth I x y = some r ∧ mi_X9_depth x y = r := by
  unfold mi_X8_depth mi_X9_depth
  by_cases h1 : x < 0 ∨ 999 < x
  · refine ⟨-1002, ?_, ?_⟩
    · by_cases h : x < 0
      · rw [if_pos h]
      · rw [if_neg h, if_pos (h1.resolve_left h)]
    · rw [zr_in0 h1, if_pos rfl]
  · rw [if_neg (fun q => h1 (Or.inl q)), if_neg (fun q => h1 (Or.inr q)), zr_in1 (fun q => h1 (Or.inl q)) (fun q => h1 (Or.inr q)), if_neg (show ¬ (1 : Int32) = 0 by decide)]
    by_cases h2 : y < 0 ∨ 6 < y
    · refine ⟨-1002, ?_, ?_⟩
      · by_cases h : y < 0
        · rw [if_pos h]
        · rw [if_neg h, if_neg (zn_nle32 (h2.resolve_left h))]
      · rw [zr_in0 h2, if_pos rfl]
    · rw [if_neg (fun q => h2 (Or.inl q)), if_pos (zn_le32 (fun q => h2 (Or.inr q))), zr_in1 (fun q => h2 (Or.inl q)) (fun q => h2 (Or.inr q)), if_neg (show ¬ (1 : Int32) = 0 by decide)]
      rcases zn_ix x (n := 999) (by omega) with h | h | ⟨m, hm, rfl⟩
      · exact absurd (Or.inl h) h1
      · exact absurd (Or.inr h) h1
      · rcases zn_ix y (n := 6) (by omega) with h | h | ⟨c, hc, rfl⟩
        · exact absurd (Or.inl h) h2
        · exact absurd (Or.inr h) h2
        · rw [zc_depthAt hm hc, zr_deep hm hc]
          exact ⟨_, rfl, rfl⟩
theorem zq_messenger {I : Nat → Nat → Int32} {R : Nat → Nat → Option Nat} {J : Nat → Nat → Int32} {A : mz_A} (x y : Int32) (hC : zz_CS I R 0 A) (hW : zz_WF A) (hJ : zz_RS J 0 A) : ∃ r, mi_X8_messenger I x y = some r ∧ mi_X9_messenger J x y = some r := by
  obtain ⟨p, sl, lo, nb, nm, mb, ms, sc, bt⟩ := A
  obtain ⟨⟨w1, w2, w3, w4, w5⟩, x1, x2, x3, x4, x5⟩ := hW
  obtain ⟨⟨h0, h1, h2, h3, h4, -⟩, -, hmm, -⟩ := hC
  obtain ⟨⟨-, j1, j2, j3, j4, j5⟩, -, jm, -⟩ := hJ
  unfold mi_X8_messenger mi_X9_messenger
  by_cases c1 : x < 0
  · rw [if_pos c1, if_pos c1]
    exact ⟨_, rfl, rfl⟩
  · rw [if_neg c1, if_neg c1]
    by_cases h2' : y < 0 ∨ 1 < y
    · refine ⟨-1002, ?_, ?_⟩
      · by_cases h : y < 0
        · rw [if_pos h]
        · rw [if_neg h, if_neg (zn_nle32 (h2'.resolve_left h))]
      · rw [zr_in0 h2', if_pos rfl]
    · rw [if_neg (fun q => h2' (Or.inl q)), if_pos (zn_le32 (fun q => h2' (Or.inr q))), zr_in1 (fun q => h2' (Or.inl q)) (fun q => h2' (Or.inr q)), if_neg (show ¬ (1 : Int32) = 0 by decide)]
      have b5 : ((5 : Int32) < 0 ∨ 1416 ≤ (5 : Int32).toNatClampNeg) = False := by decide
      have b1 : ((1 : Int32) < 0 ∨ 1416 ≤ (1 : Int32).toNatClampNeg) = False := by decide
      have c5 : (5 : Int32).toNatClampNeg = 5 := by decide
      have c1' : (1 : Int32).toNatClampNeg = 1 := by decide
      simp only [b5, b1, if_false]
      simp only [c5, c1']
      rw [show J 1 5 = nI nm from j5, show I 5 1 = nI nm from h4, show J 1 1 = nI p from j1]
      rcases zn_ix2 x (n := nm) (by omega) with h | h | ⟨k, hk, rfl⟩
      · exact absurd h c1
      · have hn : ¬ x < nI nm := by
          rw [Int32.lt_iff_toInt_lt]
          rw [Int32.le_iff_toInt_le] at h
          omega
        rw [if_neg hn, if_neg hn]
        exact ⟨_, rfl, rfl⟩
      · have hms := (x3 k hk).2
        have g : J 1 (153 + 2 * k) = nI (ms k) := by have := (jm k hk).1; rw [Nat.zero_add] at this; exact this
        rw [if_pos (zl_lt hk (by omega)), if_pos (zl_lt hk (by omega)), zc_markAt (by omega), mz_ob, show I (5 + 1) k = nI (ms k) from hmm k hk]
        have e1 : mi_X9_messengerAt 0 (nI k) = nI (153 + 2 * k) := by
          unfold mi_X9_messengerAt
          simp (disch := omega) only [zi_lit, zi_add, zi_mul, zi_le, zi_lt, zi_cl, Nat.not_lt_zero, zn_nle, zn_yle, zn_nlt, zn_ylt, if_false, if_true, or_false, false_or, mz_bn]
        rw [e1]
        have b2 : (nI (153 + 2 * k) < 0 ∨ 1416 ≤ (nI (153 + 2 * k)).toNatClampNeg) = False := by simp (disch := omega) only [zi_lit, zi_add, zi_mul, zi_le, zi_lt, zi_cl, Nat.not_lt_zero, zn_nle, zn_yle, zn_nlt, zn_ylt, if_false, if_true, or_false, false_or, mz_bn]
        simp only [b2, if_false]
        simp only [mz_bn, zi_cl (show 153 + 2 * k < 2147483648 by omega)]
        rw [g]
        by_cases cy : y = 0
        · rw [if_pos cy, if_pos cy]
          exact ⟨_, rfl, rfl⟩
        · rw [if_neg cy, if_neg cy, zc_depthOf h0 h1 h2 w2 w3 w1 (by omega), mz_ob, show mi_X9_counted J 0 = _ from zr_counted (b := 0) (by omega) j2 j3 w2 w3, mz_ob, zi_sub hms, zr_deep (by omega) (sp_cs_le _ _)]
          exact ⟨_, rfl, rfl⟩
/-- how far the pair differs from the metre -/
def sp_df (t : Nat → Int32) : Int32 := mi_X9_size (10 * (t 7 - t 6) - t 9)
theorem zc_diff {I : Nat → Nat → Int32} {x g : Nat} {t : Nat → Int32} (h : zz_cb (I x) g t) (h1 : t 1 = 1) : mi_X0_difference I x = sp_df t := by
  obtain ⟨g5, g6, g7, g8, g9, g10⟩ := h.2.2.2.2.2 h1
  unfold mi_X0_difference mi_X0_depthByPair sp_df
  rw [g9, g8, g6, zn_abs, Int32.mul_comm]
theorem zr_bAt (k : Nat) : mi_X9_bottleAt 0 (nI k) = nI (33 + 12 * k) := by
  unfold mi_X9_bottleAt
  simp (disch := omega) only [zi_lit, zi_add, zi_mul, zi_le, zi_lt, zi_cl, Nat.not_lt_zero, zn_nle, zn_yle, zn_nlt, zn_ylt, if_false, if_true, or_false, false_or, mz_bn]
theorem zr_diff {J : Nat → Nat → Int32} {A : mz_A} {k : Nat} (hJ : zz_RS J 0 A) (hk : k < mz_nb A) (hn : mz_nb A ≤ 10) : mi_X9_difference J (nI k) = some (sp_df (mz_bt A k)) ∧ mi_X9_pairDepth J (nI k) = some (10 * (mz_bt A k 7 - mz_bt A k 6)) := by
  obtain ⟨p, sl, lo, nb, nm, mb, ms, sc, bt⟩ := A
  have hk' : k < nb := hk
  have hn' : nb ≤ 10 := hn
  have g : ∀ j, 1 ≤ j → j < 11 → J 1 (33 + 12 * k + j) = bt k j := fun j a b => by have := (hJ.2.2.2 k hk).2 j a b; rw [Nat.zero_add] at this; exact this
  have hp : mi_X9_pairDepth J (nI k) = some (10 * (bt k 7 - bt k 6)) := by
    unfold mi_X9_pairDepth
    rw [zr_bAt]
    simp (disch := omega) only [zi_lit, zi_add, zi_mul, zi_le, zi_lt, zi_cl, Nat.not_lt_zero, zn_nle, zn_yle, zn_nlt, zn_ylt, if_false, if_true, or_false, false_or, mz_bn, g 7 (by omega) (by omega), g 6 (by omega) (by omega)]
  refine ⟨?_, hp⟩
  unfold mi_X9_difference
  rw [hp, mz_ob, zr_bAt]
  simp (disch := omega) only [zi_lit, zi_add, zi_mul, zi_le, zi_lt, zi_cl, Nat.not_lt_zero, zn_nle, zn_yle, zn_nlt, zn_ylt, if_false, if_true, or_false, false_or, mz_bn, g 9 (by omega) (by omega)]
  rfl
theorem zr_isShut {J : Nat → Nat → Int32} {A : mz_A} {k : Nat} (hJ : zz_RS J 0 A) (hk : k < mz_nb A) (hW : zz_WF A) : mi_X9_isShut J (nI k) = some (if mz_bt A k 1 = 0 then 0 else 1) := by
  obtain ⟨p, sl, lo, nb, nm, mb, ms, sc, bt⟩ := A
  obtain ⟨⟨w1, w2, w3, w4, w5⟩, x1, x2, x3, x4, x5⟩ := hW
  have hk' : k < nb := hk
  have t1 := (x5 k hk').1
  have g : J 1 (33 + 12 * k + 1) = bt k 1 := by have := (hJ.2.2.2 k hk).2 1 (by omega) (by omega); rw [Nat.zero_add] at this; exact this
  unfold mi_X9_isShut mz_bt
  rw [zr_bAt]
  simp (disch := omega) only [zi_lit, zi_add, zi_mul, zi_le, zi_lt, zi_cl, Nat.not_lt_zero, zn_nle, zn_yle, zn_nlt, zn_ylt, if_false, if_true, or_false, false_or, mz_bn, g]
  rcases t1 with t | t
  · rw [t]
    rfl
  · rw [t]
    rfl
theorem zq_bottle {I : Nat → Nat → Int32} {R : Nat → Nat → Option Nat} {J : Nat → Nat → Int32} {A : mz_A} (x y : Int32) (hC : zz_CS I R 0 A) (hR : zz_RW R 0) (hW : zz_WF A) (hJ : zz_RS J 0 A) : ∃ r, mi_X8_bottle I R x y = some r ∧ mi_X9_bottle J x y = some r := by
  have hS := fun k hk => zr_isShut (k := k) hJ hk hW
  have hD := fun k hk => zr_diff (k := k) hJ hk (by obtain ⟨p, sl, lo, nb, nm, mb, ms, sc, bt⟩ := A; exact hW.1.2.2.2.1)
  obtain ⟨p, sl, lo, nb, nm, mb, ms, sc, bt⟩ := A
  obtain ⟨⟨w1, w2, w3, w4, w5⟩, x1, x2, x3, x4, x5⟩ := hW
  obtain ⟨⟨h0, h1, h2, h3, h4, h5, h6, -⟩, -, -, hb⟩ := hC
  obtain ⟨⟨-, j1, j2, j3, j4, j5⟩, js, -, jb⟩ := hJ
  have j1' := j1
  rw [Nat.zero_add] at j1 j4
  have no : (x < 0 ∨ nI nb ≤ x) → ∃ r, mi_X8_bottle I R x y = some r ∧ mi_X9_bottle J x y = some r := by
    intro h
    unfold mi_X8_bottle mi_X9_bottle
    rw [zc_bottleNo h3 h, zr_isBottleNo j4 w4 h, mz_ob, mz_ob, if_pos rfl]
    exact ⟨_, rfl, rfl⟩
  rcases zn_ix2 x (n := nb) (by omega) with h | h | ⟨k, hk, rfl⟩
  · exact no (Or.inl h)
  · exact no (Or.inr h)
  · have hmk := x1 k hk
    have hcb := hb k hk
    obtain ⟨g0, g1, g2, g3, g4, g5⟩ := id hcb
    obtain ⟨t1, t2, t4⟩ := x5 k hk
    have hbk := jb k hk
    rw [Nat.zero_add] at hbk
    obtain ⟨m0, mj⟩ := hbk
    have m0' := (jb k hk).1
    have e0 : ∀ j, j ≤ 10 → (nI (33 + 12 * k + j) < 0 ∨ 1416 ≤ (nI (33 + 12 * k + j)).toNatClampNeg) = False := fun j hj => by simp (disch := omega) only [zi_lit, zi_add, zi_mul, zi_le, zi_lt, zi_cl, Nat.not_lt_zero, zn_nle, zn_yle, zn_nlt, zn_ylt, if_false, if_true, or_false, false_or, mz_bn]
    have e1 : ∀ j, j ≤ 10 → (nI (33 + 12 * k + j)).toNatClampNeg = 33 + 12 * k + j := fun j hj => zi_cl (by omega)
    have a1 : nI (33 + 12 * k) + 1 = nI (33 + 12 * k + 1) := nI_add _ 1
    have a2 : nI (33 + 12 * k) + 2 = nI (33 + 12 * k + 2) := nI_add _ 2
    have a3 : nI (33 + 12 * k) + 3 = nI (33 + 12 * k + 3) := nI_add _ 3
    have a4 : nI (33 + 12 * k) + 4 = nI (33 + 12 * k + 4) := nI_add _ 4
    have a5 : nI (33 + 12 * k) + 5 = nI (33 + 12 * k + 5) := nI_add _ 5
    have a6 : nI (33 + 12 * k) + 6 = nI (33 + 12 * k + 6) := nI_add _ 6
    have a7 : nI (33 + 12 * k) + 7 = nI (33 + 12 * k + 7) := nI_add _ 7
    have a8 : nI (33 + 12 * k) + 8 = nI (33 + 12 * k + 8) := nI_add _ 8
    have a9 : nI (33 + 12 * k) + 9 = nI (33 + 12 * k + 9) := nI_add _ 9
    have hmet : mi_X9_metre J 0 (nI k) = some (nI (p - mb k)) := zr_metre (b := 0) (by omega) (by omega) j1' m0' w1 hmk
    have hcnt : mi_X9_counted J 0 = some (nI (sp_cs sl lo)) := zr_counted (b := 0) (by omega) j2 j3 w2 w3
    have cl : mi_X8_bottle I R (nI k) y = if y < 0 then some (-1002) else if y ≤ 13 then if y < 6 then mi_X8_tellOfAny I (zz_bp R 0 k) y else if 12 < y then mi_X8_tellOfAny I (zz_bp R 0 k) y else some (mi_X8_tellOfShut I (zz_bp R 0 k) y) else some (-1002) := by
      unfold mi_X8_bottle
      rw [zc_bottleAt hR h3 w4 hk, mz_ob, mz_oms]
      have eta : ∀ z : Option Int32, (mc_ob z fun r => some r) = z := fun z => by cases z <;> rfl
      rw [eta, ]
    have ref : ∀ v, mi_X9_bottle J (nI k) v = mi_X9_bottle J (nI k) v := fun v => rfl
    rcases zn_ix y (n := 13) (by omega) with h | h | ⟨j, hj, rfl⟩
    · refine ⟨-1002, by rw [cl, if_pos h], ?_⟩
      have ne : ∀ j : Nat, j ≤ 13 → ¬ y = nI j := fun j hj q => by
        rw [q] at h
        exact absurd h (zl_nlt (b := 0) (by omega) (by omega))
      unfold mi_X9_bottle
      rw [zr_isBottleYes j4 w4 hk, mz_ob, if_neg (show ¬ (1 : Int32) = 0 by decide)]
      simp only [mz_bn]
      rw [if_neg (show ¬ y = 0 from ne 0 (by omega)), if_neg (show ¬ y = 1 from ne 1 (by omega)), if_neg (show ¬ y = 2 from ne 2 (by omega)), if_neg (show ¬ y = 3 from ne 3 (by omega)), if_neg (show ¬ y = 4 from ne 4 (by omega)), if_neg (show ¬ y = 5 from ne 5 (by omega)), if_neg (show ¬ y = 6 from ne 6 (by omega)), if_neg (show ¬ y = 7 from ne 7 (by omega)), if_neg (show ¬ y = 8 from ne 8 (by omega)), if_neg (show ¬ y = 9 from ne 9 (by omega)), if_neg (show ¬ y = 10 from ne 10 (by omega)), if_neg (show ¬ y = 11 from ne 11 (by omega)), if_neg (show ¬ y = 12 from ne 12 (by omega)), if_neg (show ¬ y = 13 from ne 13 (by omega)), zr_in0 (Or.inl (show y < 6 from by
        rw [Int32.lt_iff_toInt_lt] at h ⊢
        have e0 : (0 : Int32).toInt = 0 := by decide
        have e1 : (6 : Int32).toInt = 6 := by decide
        omega)), if_pos rfl]
    · have h13 : (13 : Int32) < y := h
      refine ⟨-1002, by rw [cl, if_neg (zn_hi0 h (by omega)), if_neg (zn_nle32 h13)], ?_⟩
      have ne : ∀ j : Nat, j ≤ 13 → ¬ y = nI j := fun j hj q => by
        rw [q] at h
        exact absurd h (zl_nlt (by omega) (by omega))
      unfold mi_X9_bottle
      rw [zr_isBottleYes j4 w4 hk, mz_ob, if_neg (show ¬ (1 : Int32) = 0 by decide)]
      simp only [mz_bn]
      rw [if_neg (show ¬ y = 0 from ne 0 (by omega)), if_neg (show ¬ y = 1 from ne 1 (by omega)), if_neg (show ¬ y = 2 from ne 2 (by omega)), if_neg (show ¬ y = 3 from ne 3 (by omega)), if_neg (show ¬ y = 4 from ne 4 (by omega)), if_neg (show ¬ y = 5 from ne 5 (by omega)), if_neg (show ¬ y = 6 from ne 6 (by omega)), if_neg (show ¬ y = 7 from ne 7 (by omega)), if_neg (show ¬ y = 8 from ne 8 (by omega)), if_neg (show ¬ y = 9 from ne 9 (by omega)), if_neg (show ¬ y = 10 from ne 10 (by omega)), if_neg (show ¬ y = 11 from ne 11 (by omega)), if_neg (show ¬ y = 12 from ne 12 (by omega)), if_neg (show ¬ y = 13 from ne 13 (by omega)), zr_in0 (Or.inr (show (12 : Int32) < y from by
        rw [Int32.lt_iff_toInt_lt] at h13 ⊢
        have e0 : (13 : Int32).toInt = 13 := by decide
        have e1 : (12 : Int32).toInt = 12 := by decide
        omega)), if_pos rfl]
    · have bool : ∀ t : Int32, (t = 0 ∨ t = 1) → (if t = 0 then (some 0 : Option Int32) else some 1) = some t := fun t ht => by
        rcases ht with q | q
        · rw [q]; rfl
        · rw [q]; rfl
      rw [cl]
      unfold mi_X9_bottle
      rw [zr_isBottleYes j4 w4 hk, mz_ob, if_neg (show ¬ (1 : Int32) = 0 by decide), zr_bAt]
      simp only [mz_bn]
      rw [a1, a2, a3, a4]
      simp only [e0 1 (by omega), e0 2 (by omega), e0 3 (by omega), e0 4 (by omega), show (nI (33 + 12 * k) < 0 ∨ 1416 ≤ (nI (33 + 12 * k)).toNatClampNeg) = False from e0 0 (by omega), if_false]
      rw [e1 1 (by omega), e1 2 (by omega), e1 3 (by omega), e1 4 (by omega), show (nI (33 + 12 * k)).toNatClampNeg = 33 + 12 * k from e1 0 (by omega), m0, mj 1 (by omega) (by omega), mj 2 (by omega) (by omega), mj 3 (by omega) (by omega), mj 4 (by omega) (by omega), hmet, hcnt, hS k hk]
      unfold mi_X8_tellOfAny mi_X8_tellOfShut mi_X9_asShut
      rw [zr_bAt]
      simp only [mz_bn, mz_ob]
      rw [a5, a6, a7, a8, a9]
      simp only [e0 5 (by omega), e0 6 (by omega), e0 7 (by omega), e0 8 (by omega), e0 9 (by omega), if_false]
      rw [e1 5 (by omega), e1 6 (by omega), e1 7 (by omega), e1 8 (by omega), e1 9 (by omega), mj 5 (by omega) (by omega), mj 6 (by omega) (by omega), mj 7 (by omega) (by omega), mj 8 (by omega) (by omega), mj 9 (by omega) (by omega), (hD k hk).1, (hD k hk).2, g0, g1, g2, g3, g4, zc_metre h0 w1 hmk, zc_depthOf h0 h1 h2 w2 w3 w1 hmk, zr_deep (by omega) (sp_cs_le _ _)]
      simp only [mz_ob]
      rcases (show j = 0 ∨ j = 1 ∨ j = 2 ∨ j = 3 ∨ j = 4 ∨ j = 5 ∨ j = 13 ∨ (6 ≤ j ∧ j ≤ 12) by omega) with rfl | rfl | rfl | rfl | rfl | rfl | rfl | hj2
      · refine ⟨nI (mb k), ?_, ?_⟩ <;> repeat (first | rw [if_neg (by decide)] | rw [if_pos (by decide)])
      · refine ⟨nI (p - mb k), ?_, ?_⟩ <;> repeat (first | rw [if_neg (by decide)] | rw [if_pos (by decide)])
      · refine ⟨nI (sp_dep (p - mb k) (sp_cs sl lo)), ?_, ?_⟩ <;> repeat (first | rw [if_neg (by decide)] | rw [if_pos (by decide)])
      · refine ⟨bt k 1, ?_, ?_⟩ <;> repeat (first | rw [if_neg (by decide)] | rw [if_pos (by decide)])
        exact bool _ t1
      · refine ⟨bt k 2, ?_, ?_⟩ <;> repeat (first | rw [if_neg (by decide)] | rw [if_pos (by decide)])
        exact bool _ t2
      · refine ⟨bt k 3, ?_, ?_⟩ <;> repeat (first | rw [if_neg (by decide)] | rw [if_pos (by decide)])
      · refine ⟨bt k 4, ?_, ?_⟩ <;> repeat (first | rw [if_neg (by decide)] | rw [if_pos (by decide)])
        exact bool _ t4
      · by_cases ct : bt k 1 = 0
        · refine ⟨-1005, ?_, ?_⟩
          · rw [if_neg (show ¬ nI j < 0 from zl_nlt (b := 0) (by omega) (by omega)), if_pos (show nI j ≤ 13 from zl_le (b := 13) (by omega) (by omega)), if_neg (show ¬ nI j < 6 from zl_nlt (b := 6) (by omega) (by omega)), if_neg (show ¬ (12 : Int32) < nI j from zl_nlt (a := 12) (by omega) (by omega)), if_pos ct]
          · rw [show mz_bt (p, sl, lo, nb, nm, mb, ms, sc, bt) k 1 = 0 from ct]
            rcases (show j = 6 ∨ j = 7 ∨ j = 8 ∨ j = 9 ∨ j = 10 ∨ j = 11 ∨ j = 12 by omega) with rfl | rfl | rfl | rfl | rfl | rfl | rfl <;> repeat (first | rw [if_neg (by decide)] | rw [if_pos (by decide)])
        · have ct1 := t1.resolve_left ct
          obtain ⟨f5, f6, f7, f8, f9, f10⟩ := g5 ct1
          have dd : mi_X5_isDoubtful I 0 (zz_bp R 0 k) = if sp_df (bt k) ≤ sc 11 then 0 else 1 := by
            unfold mi_X5_isDoubtful
            rw [g3, if_neg ct, zc_diff hcb ct1, h6]
          have s11 : J 1 11 = sc 11 := by have := js 11 (by omega) (by omega); rw [Nat.zero_add] at this; exact this
          have b11 : ((11 : Int32) < 0 ∨ 1416 ≤ (11 : Int32).toNatClampNeg) = False := by decide
          have c11 : (11 : Int32).toNatClampNeg = 11 := by decide
          simp only [b11, if_false]
          simp only [c11]
          rw [show mz_bt (p, sl, lo, nb, nm, mb, ms, sc, bt) k 1 = 1 from ct1, f5, f6, f8, f9, f10, dd, s11, show mi_X0_depthByPair I (zz_bp R 0 k) = 10 * (bt k 7 - bt k 6) by unfold mi_X0_depthByPair; rw [f9, f8, Int32.mul_comm]]
          simp only [if_neg ct]
          rcases (show j = 6 ∨ j = 7 ∨ j = 8 ∨ j = 9 ∨ j = 10 ∨ j = 11 ∨ j = 12 by omega) with rfl | rfl | rfl | rfl | rfl | rfl | rfl
          · refine ⟨bt k 5, ?_, ?_⟩ <;> (repeat (first | rw [if_neg (by decide)] | rw [if_pos (by decide)])) <;> rfl
          · refine ⟨bt k 6, ?_, ?_⟩ <;> (repeat (first | rw [if_neg (by decide)] | rw [if_pos (by decide)])) <;> rfl
          · refine ⟨bt k 7, ?_, ?_⟩ <;> (repeat (first | rw [if_neg (by decide)] | rw [if_pos (by decide)])) <;> rfl
          · refine ⟨bt k 8, ?_, ?_⟩ <;> (repeat (first | rw [if_neg (by decide)] | rw [if_pos (by decide)])) <;> rfl
          · refine ⟨10 * (bt k 7 - bt k 6), ?_, ?_⟩ <;> (repeat (first | rw [if_neg (by decide)] | rw [if_pos (by decide)])) <;> rfl
          · refine ⟨bt k 9, ?_, ?_⟩ <;> (repeat (first | rw [if_neg (by decide)] | rw [if_pos (by decide)])) <;> rfl
          · by_cases cd : sp_df (bt k) ≤ sc 11
            · rw [if_pos cd]
              refine ⟨0, ?_, ?_⟩
              · (repeat (first | rw [if_neg (by decide)] | rw [if_pos (by decide)])) <;> rfl
              · repeat (first | rw [if_neg (by decide)] | rw [if_pos (by decide)])
                rw [show sp_df (mz_bt (p, sl, lo, nb, nm, mb, ms, sc, bt) k) = sp_df (bt k) from rfl, if_pos cd]
                first | rfl | skip
            · rw [if_neg cd]
              refine ⟨1, ?_, ?_⟩
              · (repeat (first | rw [if_neg (by decide)] | rw [if_pos (by decide)])) <;> rfl
              · repeat (first | rw [if_neg (by decide)] | rw [if_pos (by decide)])
                rw [show sp_df (mz_bt (p, sl, lo, nb, nm, mb, ms, sc, bt) k) = sp_df (bt k) from rfl, if_neg cd]
                first | rfl | skip

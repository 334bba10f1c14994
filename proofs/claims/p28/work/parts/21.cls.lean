/-! the class's small methods -/
theorem zc_d {c : Nat} (h : c ≤ 6) : mc_d c = nI (sp_f c) := by
  rcases (show c = 0 ∨ c = 1 ∨ c = 2 ∨ c = 3 ∨ c = 4 ∨ c = 5 ∨ c = 6 by omega) with rfl | rfl | rfl | rfl | rfl | rfl | rfl <;> rfl
theorem zc_depthAt {I : Nat → Nat → Int32} {m c : Nat} (hm : m ≤ 999) (hc : c ≤ 6) : mi_X8_depthAt I (nI m) (nI c) = some (nI (sp_dep m c)) := by
  have hf := sp_mf_le (c := c) hm
  simp (disch := omega) only [mi_X8_depthAt, zi_lit, zi_cl, zi_le, zi_lt, Nat.not_lt_zero, zn_ylt, zn_nle, if_false, if_true, or_false]
  rw [zc_d hc, zi_mul, zi_div (by omega) (by omega) (by omega)]
  rfl
theorem zc_cs {I : Nat → Nat → Int32} {a sl lo : Nat} (h1 : I a 1 = nI sl) (h2 : I a 2 = nI lo) (hs : sl ≤ 6) (hl : lo ≤ 1) : mi_X1_countedSlope I a = nI (sp_cs sl lo) := by
  unfold mi_X1_countedSlope mc_min sp_cs
  rw [h1, h2]
  rcases (show lo = 0 ∨ lo = 1 by omega) with rfl | rfl <;> rcases (show sl = 0 ∨ sl = 1 ∨ sl = 2 ∨ sl = 3 ∨ sl = 4 ∨ sl = 5 ∨ sl = 6 by omega) with rfl | rfl | rfl | rfl | rfl | rfl | rfl <;> decide
theorem zc_sticking {I : Nat → Nat → Int32} {a sl lo : Nat} (h1 : I a 1 = nI sl) (h2 : I a 2 = nI lo) (hs : sl ≤ 6) (hl : lo ≤ 1) : mi_X1_isSticking I a = if sp_cs sl lo < 6 then 0 else 1 := by
  have := sp_cs_le sl lo
  unfold mi_X1_isSticking
  rw [zc_cs h1 h2 hs hl]
  simp (disch := omega) only [zi_lit, zi_lt]
theorem zc_step {I : Nat → Nat → Int32} {a sl lo : Nat} (h1 : I a 1 = nI sl) (h2 : I a 2 = nI lo) (hs : sl ≤ 6) (hl : lo ≤ 1) : mi_X1_step I a = nI (sp_w (sp_cs sl lo)) := by
  have hc := sp_cs_le sl lo
  unfold mi_X1_step
  rw [zc_cs h1 h2 hs hl]
  generalize sp_cs sl lo = c at hc ⊢
  rcases (show c = 0 ∨ c = 1 ∨ c = 2 ∨ c = 3 ∨ c = 4 ∨ c = 5 ∨ c = 6 by omega) with rfl | rfl | rfl | rfl | rfl | rfl | rfl <;> decide
theorem zc_inw {I : Nat → Nat → Int32} {a p g : Nat} (h : I a 0 = nI p) (hp : p ≤ 999) (hg : g ≤ 999) : mi_X1_isInWater I a (nI g) = if p ≤ g then 0 else 1 := by
  unfold mi_X1_isInWater
  rw [h]
  simp (disch := omega) only [zi_le]
theorem zc_metre {I : Nat → Nat → Int32} {a p g : Nat} (h : I a 0 = nI p) (hp : p ≤ 999) (hg : g ≤ 999) : mi_X1_metreOf I a (nI g) = nI (p - g) := by
  unfold mi_X1_metreOf
  rw [zc_inw h hp hg, h]
  by_cases hpg : p ≤ g
  · simp only [if_pos hpg]
    show nI 0 = _
    rw [show p - g = 0 by omega]
  · simp only [if_neg hpg]
    rw [if_neg (by decide), zi_sub (by omega)]
theorem zc_depthOf {I : Nat → Nat → Int32} {a p g sl lo : Nat} (h : I a 0 = nI p) (h1 : I a 1 = nI sl) (h2 : I a 2 = nI lo) (hs : sl ≤ 6) (hl : lo ≤ 1) (hp : p ≤ 999) (hg : g ≤ 999) : mi_X1_depthOf I a (nI g) = some (nI (sp_dep (p - g) (sp_cs sl lo))) := by
  unfold mi_X1_depthOf
  rw [zc_metre h hp hg, zc_cs h1 h2 hs hl, zc_depthAt (by omega) (sp_cs_le _ _)]
  rfl
theorem zc_layerAt {d : Nat} (h : d ≤ 999999) : mi_X8_layerAt (nI d) = nI (sp_lay d) := by
  unfold mi_X8_layerAt mc_min sp_lay
  simp (disch := omega) only [zi_lit, zi_div, zi_lt]
  by_cases h9 : d / 100 ≤ 9
  · rw [if_pos h9]
    by_cases h8 : d / 100 < 9
    · rw [if_pos h8]
    · rw [if_neg h8]
      exact congrArg nI (by omega)
  · rw [if_neg h9, if_neg (by omega)]
theorem zc_has {v k : Nat} (h : k < 10) : mi_X7_has v (nI k) = 1 := by
  unfold mi_X7_has
  simp (disch := omega) only [zi_lit, zi_lt, zi_le, Nat.not_lt_zero, zn_nle, if_false]
theorem zc_warmthIn {I : Nat → Nat → Int32} {v k : Nat} (h : k < 10) : mi_X7_warmthIn I v (nI k) = some (I (v + 1) k) := by
  unfold mi_X7_warmthIn
  rw [zc_has h, if_neg (by decide)]
  simp (disch := omega) only [zi_lit, zi_lt, zi_cl, Nat.not_lt_zero, zn_nle, if_false, or_false]
theorem zc_saltIn {I : Nat → Nat → Int32} {v k : Nat} (h : k < 10) : mi_X7_saltIn I v (nI k) = some (I (v + 2) k) := by
  unfold mi_X7_saltIn
  rw [zc_has h, if_neg (by decide)]
  simp (disch := omega) only [zi_lit, zi_lt, zi_cl, Nat.not_lt_zero, zn_nle, if_false, or_false]
theorem zc_bottleAt {I : Nat → Nat → Int32} {R : Nat → Nat → Option Nat} {a k n : Nat} (hR : zz_RW R a) (hn : I a 4 = nI n) (hn2 : n ≤ 10) (hk : k < n) : mi_X5_bottleAt I R a (nI k) = some (some (zz_bp R a k)) := by
  unfold mi_X5_bottleAt
  simp (disch := omega) only [zi_lit, zi_cl, mz_bn, hn, zi_le, zi_lt, Nat.not_lt_zero, zn_nle, if_false, or_false]
  rw [(hR k (by omega)).1]
theorem zc_bottleNo {I : Nat → Nat → Int32} {R : Nat → Nat → Option Nat} {a n : Nat} {x : Int32} (hn : I a 4 = nI n) (h : x < 0 ∨ nI n ≤ x) : mi_X5_bottleAt I R a x = some none := by
  unfold mi_X5_bottleAt
  rw [hn]
  by_cases h0 : x < 0
  · rw [if_pos h0]
  · rw [if_neg h0, if_pos (h.resolve_left h0)]
theorem zc_markAt {I : Nat → Nat → Int32} {v k : Nat} (h : k < 12) : mi_X4_markAt I v (nI k) = some (I (v + 1) k) := by
  unfold mi_X4_markAt
  simp (disch := omega) only [zi_lit, zi_lt, zi_le, zi_cl, Nat.not_lt_zero, zn_nle, if_false, or_false]
theorem zc_put {I : Nat → Nat → Int32} {v k : Nat} {x : Int32} (h : k < 12) : mi_X4_put I v (nI k) x = some (mc_u I (v + 1) k x) := by
  unfold mi_X4_put
  simp (disch := omega) only [zi_lit, zi_lt, zi_le, zi_cl, Nat.not_lt_zero, zn_nle, if_false, or_false, mz_bn]
/-- a bottle in the water is shut -/
theorem zc_shut {I : Nat → Nat → Int32} {a b p sl lo g : Nat} (h0 : I (a + 1) 0 = nI p) (h1 : I (a + 1) 1 = nI sl) (h2 : I (a + 1) 2 = nI lo) (hs : sl ≤ 6) (hl : lo ≤ 1) (hp : p ≤ 999) (hb : a + 8 ≤ b) (hg : I b 0 = nI g) (hgp : g < p) :
    ∃ I1, mi_X5_shut I a b = some I1 ∧ (∀ x, x ≠ b → I1 x = I x) ∧ I1 b 0 = I b 0 ∧ I1 b 1 = I b 1 ∧ I1 b 2 = I b 2 ∧ I1 b 4 = I b 4 ∧ I1 b 3 = 1 ∧ I1 b 5 = I a 5 ∧ I1 b 6 = nI (p - g) ∧ I1 b 7 = nI (sp_lay (sp_dep (p - g) (sp_cs sl lo))) ∧ I1 b 8 = I (a + 3) (sp_lay (sp_dep (p - g) (sp_cs sl lo))) ∧ I1 b 9 = I (a + 3) (sp_lay (sp_dep (p - g) (sp_cs sl lo))) + nI (sp_dep (p - g) (sp_cs sl lo) / 10) ∧ I1 b 10 = I (a + 4) (sp_lay (sp_dep (p - g) (sp_cs sl lo))) := by
  have hd := sp_dep_le (m := p - g) (c := sp_cs sl lo) (by omega)
  have hly := sp_lay_le (sp_dep (p - g) (sp_cs sl lo))
  unfold mi_X5_shut
  simp only [mz_bn]
  rw [h0, hg, zi_sub (by omega), zc_cs h1 h2 hs hl, zc_depthAt (by omega) (sp_cs_le _ _), mz_ob]
  rw [zc_layerAt (by omega)]
  generalize hD : sp_dep (p - g) (sp_cs sl lo) = d at hd hly ⊢
  generalize hL : sp_lay d = ly at hly ⊢
  generalize hI1 : mc_u (mc_u (mc_u (mc_u I b 3 1) b 5 (mc_u I b 3 1 a 5)) b 6 (nI (p - g))) b 7 (nI ly) = I1
  have e7 : I1 b 7 = nI ly := by rw [← hI1, mz_u]; simp
  rw [e7, zc_warmthIn (by omega), mz_ob]
  generalize hI2 : mc_u I1 b 8 (I1 (a + 2 + 1) ly) = I2
  have e8 : I2 b 8 = I1 (a + 2 + 1) ly := by rw [← hI2, mz_u]; simp
  generalize hI3 : mc_u I2 b 9 (I2 b 8 + nI d / 10) = I3
  have e73 : I3 b 7 = nI ly := by
    have : I3 b 7 = I1 b 7 := by
      rw [← hI3, ← hI2]
      simp [mz_u]
    rw [this, e7]
  rw [e73, zc_saltIn (by omega), mz_ob]
  have e10 : nI d / 10 = nI (d / 10) := zi_div (d := 10) (by omega) (by decide) (by decide)
  refine ⟨_, rfl, ?_, ?_⟩
  · intro x hx
    rw [mz_ux _ hx, ← hI3, mz_ux _ hx, ← hI2, mz_ux _ hx, ← hI1, mz_ux _ hx, mz_ux _ hx, mz_ux _ hx, mz_ux _ hx]
  · rw [e10] at hI3
    have n1 : a ≠ b := by omega
    have n2 : a + 2 + 1 ≠ b := by omega
    have n3 : a + 2 + 2 ≠ b := by omega
    subst hI3 hI2 hI1
    simp only [mz_u]
    simp [n1, n2, n3]
    exact hg


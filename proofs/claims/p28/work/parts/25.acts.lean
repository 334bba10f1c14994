/-! the small acts: what each does to a state, in the class and in the reference -/
theorem zn_ix (x : Int32) {n : Nat} (hn : n < 2147483647) : x < 0 ∨ nI n < x ∨ ∃ j : Nat, j ≤ n ∧ x = nI j := by
  rcases pk_ix x (n := n + 1) (by omega) with h | h | ⟨j, h1, h2⟩
  · exact Or.inl h
  · refine Or.inr (Or.inl ?_)
    rw [Int32.lt_iff_toInt_lt]
    rw [Int32.le_iff_toInt_le] at h
    rw [nI_toInt (by omega)] at h ⊢
    omega
  · exact Or.inr (Or.inr ⟨j, by omega, h2⟩)
theorem zn_lo {x : Int32} {n : Nat} (h : x < 0) (hn : n < 2147483648) : x < nI n := by
  rw [Int32.lt_iff_toInt_lt] at h ⊢
  rw [nI_toInt hn]
  have : (0 : Int32).toInt = 0 := by decide
  omega
theorem zn_hi0 {x : Int32} {n : Nat} (h : nI n < x) (hn : n < 2147483648) : ¬ x < 0 := by
  rw [Int32.lt_iff_toInt_lt] at h ⊢
  rw [nI_toInt hn] at h
  have : (0 : Int32).toInt = 0 := by decide
  omega
theorem zn_nle32 {x y : Int32} (h : y < x) : ¬ x ≤ y := by
  rw [Int32.lt_iff_toInt_lt] at h
  rw [Int32.le_iff_toInt_le]
  omega
theorem zn_le32 {x y : Int32} (h : ¬ y < x) : x ≤ y := by
  rw [Int32.lt_iff_toInt_lt] at h
  rw [Int32.le_iff_toInt_le]
  omega
theorem zn_lt32 {x y : Int32} (h : ¬ y ≤ x) : x < y := by
  rw [Int32.le_iff_toInt_le] at h
  rw [Int32.lt_iff_toInt_lt]
  omega
theorem va_up_id {α : Type} (f : Nat → α) (k : Nat) : va_up f k (f k) = f := by
  funext j
  by_cases h : j = k
  · subst h
    rw [va_up_self]
  · rw [va_up_ne _ _ h]
def sq_slope (x : Int32) : mz_A → mz_A × Int32
  | (p, sl, lo, nb, nm, mb, ms, sc, bt) => if x < 0 ∨ 6 < x then ((p, sl, lo, nb, nm, mb, ms, sc, bt), -1002) else if x.toNatClampNeg = sl then ((p, sl, lo, nb, nm, mb, ms, sc, bt), -1005) else ((p, x.toNatClampNeg, lo, nb, nm, mb, ms, sc, bt), nI sl)
theorem zc_slope {I : Nat → Nat → Int32} {R : Nat → Nat → Option Nat} {a : Nat} {A : mz_A} (x : Int32) (hC : zz_CS I R a A) (hR : zz_RW R a) (hW : zz_WF A) : ∃ I1, mi_X5_changeSlope I a x = (I1, (sq_slope x A).2) ∧ zz_fr a I I1 ∧ zz_CS I1 R a (sq_slope x A).1 := by
  obtain ⟨p, sl, lo, nb, nm, mb, ms, sc, bt⟩ := A
  obtain ⟨⟨w1, w2, w3, w4, w5⟩, -⟩ := hW
  have hC' := hC
  obtain ⟨⟨h0, h1, -⟩, -⟩ := hC
  unfold mi_X5_changeSlope sq_slope
  dsimp only
  rcases zn_ix x (n := 6) (by omega) with h | h | ⟨j, hj, rfl⟩
  · rw [if_pos h, if_pos (Or.inl h)]
    exact ⟨I, rfl, zz_fr.rfl, hC'⟩
  · have h6 : (6 : Int32) < x := h
    rw [if_neg (zn_hi0 h (by omega)), if_neg (zn_nle32 h6), if_pos (Or.inr h6)]
    exact ⟨I, rfl, zz_fr.rfl, hC'⟩
  · rw [h1]
    by_cases hjs : j = sl
    · subst hjs
      simp (disch := omega) only [zi_lit, zi_add, zi_mul, zi_le, zi_lt, zi_cl, Nat.not_lt_zero, zn_nle, zn_yle, zn_nlt, zn_ylt, if_false, if_true, or_false, false_or, mz_bn, zi_eq]
      exact ⟨I, rfl, zz_fr.rfl, hC'⟩
    · simp (disch := omega) only [zi_lit, zi_add, zi_mul, zi_le, zi_lt, zi_cl, Nat.not_lt_zero, zn_nle, zn_yle, zn_nlt, zn_ylt, if_false, if_true, or_false, false_or, mz_bn, zi_eq, zn_ne]
      exact ⟨_, rfl, zu_fr (by omega) (by omega), zu_sl hC' hR w4 j⟩
theorem zw_slope {A : mz_A} (x : Int32) (hW : zz_WF A) : zz_WF (sq_slope x A).1 := by
  obtain ⟨p, sl, lo, nb, nm, mb, ms, sc, bt⟩ := A
  unfold sq_slope
  dsimp only
  rcases zn_ix x (n := 6) (by omega) with h | h | ⟨j, hj, rfl⟩
  · rw [if_pos (Or.inl h)]
    exact hW
  · rw [if_pos (Or.inr (show (6 : Int32) < x from h))]
    exact hW
  · obtain ⟨⟨w1, w2, w3, w4, w5⟩, ww⟩ := hW
    by_cases hjs : j = sl
    · simp (disch := omega) only [zi_lit, zi_add, zi_mul, zi_le, zi_lt, zi_cl, Nat.not_lt_zero, zn_nle, zn_yle, zn_nlt, zn_ylt, if_false, if_true, or_false, false_or, mz_bn, hjs]
      exact ⟨⟨w1, w2, w3, w4, w5⟩, ww⟩
    · simp (disch := omega) only [zi_lit, zi_add, zi_mul, zi_le, zi_lt, zi_cl, Nat.not_lt_zero, zn_nle, zn_yle, zn_nlt, zn_ylt, if_false, if_true, or_false, false_or, mz_bn, hjs]
      exact ⟨⟨w1, hj, w3, w4, w5⟩, ww⟩
def sq_weight (x : Nat) : mz_A → mz_A × Int32
  | (p, sl, lo, nb, nm, mb, ms, sc, bt) => if lo = 1 ∧ x = 0 ∧ 0 < p then ((p, sl, lo, nb, nm, mb, ms, sc, bt), -1004) else if lo = x then ((p, sl, lo, nb, nm, mb, ms, sc, bt), -1005) else ((p, sl, x, nb, nm, mb, ms, sc, bt), nI (sp_cs sl x))
theorem zc_weight {I : Nat → Nat → Int32} {R : Nat → Nat → Option Nat} {a : Nat} {A : mz_A} {x : Nat} (hx : x ≤ 1) (hC : zz_CS I R a A) (hR : zz_RW R a) (hW : zz_WF A) : ∃ I1, mi_X5_changeWeight I a (nI x) = some (I1, (sq_weight x A).2) ∧ zz_fr a I I1 ∧ zz_CS I1 R a (sq_weight x A).1 := by
  obtain ⟨p, sl, lo, nb, nm, mb, ms, sc, bt⟩ := A
  obtain ⟨⟨w1, w2, w3, w4, w5⟩, -⟩ := hW
  have hC' := hC
  obtain ⟨⟨h0, h1, h2, -⟩, -⟩ := hC
  have key : (lo = x → ∃ I1, mi_X5_changeWeight_J28 I a (nI x) = some (I1, -1005) ∧ zz_fr a I I1 ∧ zz_CS I1 R a (p, sl, lo, nb, nm, mb, ms, sc, bt)) ∧ (¬ lo = x → ∃ I1, mi_X5_changeWeight_J28 I a (nI x) = some (I1, nI (sp_cs sl x)) ∧ zz_fr a I I1 ∧ zz_CS I1 R a (p, sl, x, nb, nm, mb, ms, sc, bt)) := by
    constructor
    · intro h
      unfold mi_X5_changeWeight_J28
      rw [h2, if_pos (by rw [h])]
      exact ⟨I, rfl, zz_fr.rfl, hC'⟩
    · intro h
      unfold mi_X5_changeWeight_J28
      rw [h2]
      simp (disch := omega) only [zi_lit, zi_add, zi_mul, zi_le, zi_lt, zi_cl, Nat.not_lt_zero, zn_nle, zn_yle, zn_nlt, zn_ylt, if_false, if_true, or_false, false_or, mz_bn, zi_eq, zn_ne, zn_bool (zn_boolN hx)]
      have q := zu_lo hC' hR w4 x
      obtain ⟨⟨-, g1, g2, -⟩, -⟩ := id q
      rw [zc_cs g1 g2 w2 hx]
      have e : ((nI x ≠ nI 0) ∧ (nI x ≠ nI 1)) = False := zn_bool (zn_boolN hx)
      first | exact ⟨_, rfl, zu_fr (by omega) (by omega), q⟩ | (simp only [e, if_false]; exact ⟨_, rfl, zu_fr (by omega) (by omega), q⟩)
  unfold mi_X5_changeWeight
  rw [h2, h0]
  rcases (show lo = 0 ∨ lo = 1 by omega) with rfl | rfl <;> rcases (show x = 0 ∨ x = 1 by omega) with rfl | rfl
  · have e : sq_weight 0 (p, sl, 0, nb, nm, mb, ms, sc, bt) = ((p, sl, 0, nb, nm, mb, ms, sc, bt), -1005) := by simp [sq_weight]
    rw [e, if_pos (show nI 0 = 0 from rfl)]
    exact key.1 rfl
  · have e : sq_weight 1 (p, sl, 0, nb, nm, mb, ms, sc, bt) = ((p, sl, 1, nb, nm, mb, ms, sc, bt), nI (sp_cs sl 1)) := by simp [sq_weight]
    rw [e, if_pos (show nI 0 = 0 from rfl)]
    exact key.2 (by decide)
  · rw [if_neg (show ¬ nI 1 = 0 by decide), if_pos (show nI 0 = 0 from rfl)]
    by_cases hp : 0 < p
    · have e : sq_weight 0 (p, sl, 1, nb, nm, mb, ms, sc, bt) = ((p, sl, 1, nb, nm, mb, ms, sc, bt), -1004) := by simp [sq_weight, hp]
      rw [e, if_neg (show ¬ nI p ≤ (0 : Int32) from zl_nle (b := 0) hp (by omega))]
      exact ⟨I, rfl, zz_fr.rfl, hC'⟩
    · have e : sq_weight 0 (p, sl, 1, nb, nm, mb, ms, sc, bt) = ((p, sl, 0, nb, nm, mb, ms, sc, bt), nI (sp_cs sl 0)) := by simp [sq_weight, hp]
      rw [e, if_pos (show nI p ≤ (0 : Int32) from zl_le (b := 0) (by omega) (by omega))]
      exact key.2 (by decide)
  · have e : sq_weight 1 (p, sl, 1, nb, nm, mb, ms, sc, bt) = ((p, sl, 1, nb, nm, mb, ms, sc, bt), -1005) := by simp [sq_weight]
    rw [e, if_neg (show ¬ nI 1 = 0 by decide), if_neg (show ¬ nI 1 = 0 by decide)]
    exact key.1 rfl
theorem zw_weight {A : mz_A} {x : Nat} (hx : x ≤ 1) (hW : zz_WF A) : zz_WF (sq_weight x A).1 := by
  obtain ⟨p, sl, lo, nb, nm, mb, ms, sc, bt⟩ := A
  obtain ⟨⟨w1, w2, w3, w4, w5⟩, ww⟩ := hW
  unfold sq_weight
  dsimp only
  by_cases h1 : lo = 1 ∧ x = 0 ∧ 0 < p
  · rw [if_pos h1]
    exact ⟨⟨w1, w2, w3, w4, w5⟩, ww⟩
  · rw [if_neg h1]
    by_cases h2 : lo = x
    · rw [if_pos h2]
      exact ⟨⟨w1, w2, w3, w4, w5⟩, ww⟩
    · rw [if_neg h2]
      exact ⟨⟨w1, w2, hx, w4, w5⟩, ww⟩
def sp_ix (w : Int32) : Nat := if w = 0 then 11 else 12
theorem sp_ix0 : sp_ix 0 = 11 := rfl
theorem sp_ix1 : sp_ix 1 = 12 := rfl
def sq_set (w v : Int32) : mz_A → mz_A × Int32
  | (p, sl, lo, nb, nm, mb, ms, sc, bt) => if ¬ w = 0 ∧ ¬ w = 1 then ((p, sl, lo, nb, nm, mb, ms, sc, bt), -1001) else if v < w ∨ 999 < v then ((p, sl, lo, nb, nm, mb, ms, sc, bt), -1002) else if sc (sp_ix w) = v then ((p, sl, lo, nb, nm, mb, ms, sc, bt), -1005) else ((p, sl, lo, nb, nm, mb, ms, va_up sc (sp_ix w) v, bt), sc (sp_ix w))
theorem zw_set {A : mz_A} (w v : Int32) (hW : zz_WF A) : zz_WF (sq_set w v A).1 := by
  obtain ⟨p, sl, lo, nb, nm, mb, ms, sc, bt⟩ := A
  unfold sq_set
  dsimp only
  split
  · exact hW
  · split
    · exact hW
    · split
      · exact hW
      · exact hW
theorem zc_set {I : Nat → Nat → Int32} {R : Nat → Nat → Option Nat} {a : Nat} {A : mz_A} (w v : Int32) (hC : zz_CS I R a A) (hR : zz_RW R a) (hW : zz_WF A) : ∃ I1, mi_X5_changeSetting I a w v = (I1, (sq_set w v A).2) ∧ zz_fr a I I1 ∧ zz_CS I1 R a (sq_set w v A).1 := by
  obtain ⟨p, sl, lo, nb, nm, mb, ms, sc, bt⟩ := A
  obtain ⟨⟨w1, w2, w3, w4, w5⟩, -⟩ := hW
  have hC' := hC
  obtain ⟨⟨h0, h1, h2, h3, h4, h5, h6, h7, -⟩, -⟩ := hC
  by_cases hw0 : w = 0
  · subst hw0
    by_cases hv : v < 0 ∨ 999 < v
    · have e : sq_set 0 v (p, sl, lo, nb, nm, mb, ms, sc, bt) = ((p, sl, lo, nb, nm, mb, ms, sc, bt), -1002) := by
        unfold sq_set
        dsimp only
        rw [if_neg (fun q => q.1 rfl), if_pos hv]
      rw [e]
      refine ⟨I, ?_, zz_fr.rfl, hC'⟩
      unfold mi_X5_changeSetting mi_X5_changeSetting_J13 mi_X5_changeSetting_J23
      rw [if_pos rfl, if_neg (by decide)]
      rcases hv with hv | hv
      · rw [if_pos hv]
      · by_cases h : v < 0
        · rw [if_pos h]
        · rw [if_neg h, if_neg (zn_nle32 hv)]
    · have hv1 : ¬ v < 0 := fun q => hv (Or.inl q)
      have hv2 : v ≤ 999 := zn_le32 (fun q => hv (Or.inr q))
      by_cases hs : sc 11 = v
      · have e : sq_set 0 v (p, sl, lo, nb, nm, mb, ms, sc, bt) = ((p, sl, lo, nb, nm, mb, ms, sc, bt), -1005) := by
          unfold sq_set
          dsimp only
          rw [if_neg (fun q => q.1 rfl), if_neg hv, sp_ix0, if_pos hs]
        rw [e]
        refine ⟨I, ?_, zz_fr.rfl, hC'⟩
        unfold mi_X5_changeSetting mi_X5_changeSetting_J13 mi_X5_changeSetting_J23 mi_X5_changeSetting_J56
        rw [if_pos rfl, if_neg (by decide), if_neg hv1, if_pos hv2, if_neg (by decide), h6, if_pos hs]
      · have e : sq_set 0 v (p, sl, lo, nb, nm, mb, ms, sc, bt) = ((p, sl, lo, nb, nm, mb, ms, va_up sc 11 v, bt), sc 11) := by
          unfold sq_set
          dsimp only
          rw [if_neg (fun q => q.1 rfl), if_neg hv, sp_ix0, if_neg hs]
        rw [e]
        refine ⟨_, ?_, zu_fr (by omega) (by omega), zu_s11 hC' hR w4 v⟩
        unfold mi_X5_changeSetting mi_X5_changeSetting_J13 mi_X5_changeSetting_J23 mi_X5_changeSetting_J56
        rw [if_pos rfl, if_neg (by decide), if_neg hv1, if_pos hv2, if_neg (by decide), h6, if_neg hs, if_neg (by decide)]
        first | rfl | skip
  · by_cases hw1 : w = 1
    · subst hw1
      by_cases hv : v < 1 ∨ 999 < v
      · have e : sq_set 1 v (p, sl, lo, nb, nm, mb, ms, sc, bt) = ((p, sl, lo, nb, nm, mb, ms, sc, bt), -1002) := by
          unfold sq_set
          dsimp only
          rw [if_neg (fun q => q.2 rfl), if_pos hv]
        rw [e]
        refine ⟨I, ?_, zz_fr.rfl, hC'⟩
        unfold mi_X5_changeSetting mi_X5_changeSetting_J13 mi_X5_changeSetting_J23
        rw [if_neg (by decide), if_pos rfl, if_pos rfl]
        rcases hv with hv | hv
        · rw [if_pos hv]
        · by_cases h : v < 1
          · rw [if_pos h]
          · rw [if_neg h, if_neg (zn_nle32 hv)]
      · have hv1 : ¬ v < 1 := fun q => hv (Or.inl q)
        have hv2 : v ≤ 999 := zn_le32 (fun q => hv (Or.inr q))
        by_cases hs : sc 12 = v
        · have e : sq_set 1 v (p, sl, lo, nb, nm, mb, ms, sc, bt) = ((p, sl, lo, nb, nm, mb, ms, sc, bt), -1005) := by
            unfold sq_set
            dsimp only
            rw [if_neg (fun q => q.2 rfl), if_neg hv, sp_ix1, if_pos hs]
          rw [e]
          refine ⟨I, ?_, zz_fr.rfl, hC'⟩
          unfold mi_X5_changeSetting mi_X5_changeSetting_J13 mi_X5_changeSetting_J23 mi_X5_changeSetting_J56
          rw [if_neg (by decide), if_pos rfl, if_pos rfl, if_neg hv1, if_pos hv2, if_pos rfl, h7, if_pos hs]
        · have e : sq_set 1 v (p, sl, lo, nb, nm, mb, ms, sc, bt) = ((p, sl, lo, nb, nm, mb, ms, va_up sc 12 v, bt), sc 12) := by
            unfold sq_set
            dsimp only
            rw [if_neg (fun q => q.2 rfl), if_neg hv, sp_ix1, if_neg hs]
          rw [e]
          refine ⟨_, ?_, zu_fr (by omega) (by omega), zu_s12 hC' hR w4 v⟩
          unfold mi_X5_changeSetting mi_X5_changeSetting_J13 mi_X5_changeSetting_J23 mi_X5_changeSetting_J56
          rw [if_neg (by decide), if_pos rfl, if_pos rfl, if_neg hv1, if_pos hv2, if_pos rfl, h7, if_neg hs, if_pos rfl]
          rfl
    · have e : sq_set w v (p, sl, lo, nb, nm, mb, ms, sc, bt) = ((p, sl, lo, nb, nm, mb, ms, sc, bt), -1001) := by
        unfold sq_set
        dsimp only
        rw [if_pos ⟨hw0, hw1⟩]
      rw [e]
      refine ⟨I, ?_, zz_fr.rfl, hC'⟩
      unfold mi_X5_changeSetting
      rw [if_neg hw0, if_neg hw1]

/-! the states that undo brings back -/
def zz_sec (A : mz_A) : Prop := ∃ s, s ≤ 99999 ∧ mz_s0 A = nI s
def zz_ok (A : mz_A) : Prop := zz_WF A ∧ zz_sec A
def zz_pt (R : Nat → Nat → Option Nat) (pt : Nat → Nat) : Prop := ∀ j, j < 4 → R 146 j = some (pt j) ∧ zz_RW R (pt j) ∧ (∃ q, q < 4 ∧ pt j = 72 + 18 * q) ∧ ∀ i, i < 4 → pt i = pt j → i = j
def zz_PH (I : Nat → Nat → Int32) (R : Nat → Nat → Option Nat) (J : Nat → Nat → Int32) (ns : Nat) (AH : Nat → mz_A) (pt : Nat → Nat) : Prop := ns ≤ 4 ∧ I 145 1 = nI ns ∧ J 0 1 = nI ns ∧ zz_pt R pt ∧ ∀ j, j < ns → zz_CS I R (pt j) (AH j) ∧ zz_RS J (177 * (j + 1)) (AH j) ∧ zz_ok (AH j)
theorem zc_dropL {I : Nat → Nat → Int32} {R : Nat → Nat → Option Nat} {F : Nat} {pt : Nat → Nat} (h : ∀ j, j < 4 → R 146 j = some (pt j)) : ∀ (n i : Nat) (R2 : Nat → Nat → Option Nat), i ≤ 3 → 3 - i < n → (∀ x, x ≠ 146 → R2 x = R x) → (∀ j, i ≤ j → j < 4 → R2 146 j = some (pt j)) → (∀ j, j < i → R2 146 j = some (pt (j + 1))) → ∃ R1, mi_X3_dropOldest_L9 F n I R2 (some (pt 0)) (nI i) = some (mc_u I 145 1 (nI 3), R1) ∧ (∀ x, x ≠ 146 → R1 x = R x) ∧ ∀ j, j < 4 → R1 146 j = some (if j < 3 then pt (j + 1) else pt 0) := by
  intro n
  induction n with
  | zero => intro i _ _ h; omega
  | succ n ih =>
    intro i R2 hi hin f0 f1 f2
    show ∃ R1, mi_X3_dropOldest_B9 _ F I R2 _ _ = _ ∧ _
    unfold mi_X3_dropOldest_B9
    by_cases c : i = 3
    · subst c
      simp (disch := omega) only [zi_lit, zi_add, zi_mul, zi_le, zi_lt, zi_cl, Nat.not_lt_zero, zn_nle, zn_yle, zn_nlt, zn_ylt, if_false, if_true, or_false, false_or, mz_bn]
      refine ⟨_, rfl, fun x hx => by rw [mz_ux _ hx]; exact f0 x hx, fun j hj => ?_⟩
      rw [mz_u]
      by_cases e : j = 3
      · subst e
        rw [if_pos ⟨rfl, rfl⟩, if_neg (by omega)]
      · rw [if_neg (fun q => e q.2), if_pos (by omega)]
        exact f2 j (by omega)
    · have e1 := f1 (i + 1) (by omega) (by omega)
      simp (disch := omega) only [zi_lit, zi_add, zi_mul, zi_le, zi_lt, zi_cl, Nat.not_lt_zero, zn_nle, zn_yle, zn_nlt, zn_ylt, if_false, if_true, or_false, false_or, mz_bn, e1]
      refine ih (i + 1) _ (by omega) (by omega) (fun x hx => by rw [mz_ux _ hx]; exact f0 x hx) (fun j j1 j2 => ?_) (fun j hj => ?_)
      · rw [mz_u, if_neg (by omega)]
        exact f1 j (by omega) j2
      · rw [mz_u]
        by_cases e : j = i
        · subst e
          rw [if_pos ⟨rfl, rfl⟩]
        · rw [if_neg (fun q => e q.2)]
          exact f2 j (by omega)
theorem zr_dropL {J : Nat → Nat → Int32} {F : Nat} {r : Int32} (hF : 200 ≤ F) : ∀ (n v : Nat) (J2 : Nat → Nat → Int32), 1 ≤ v → v ≤ 4 → 4 - v < n → (∀ x, x ≠ 1 → J2 x = J x) → (∀ i, i < 177 ∨ 177 * v ≤ i → J2 1 i = J 1 i) → (∀ q j, 1 ≤ q → q < v → j < 177 → J2 1 (177 * q + j) = J 1 (177 * (q + 1) + j)) → ∃ J1, mi_X9_records_L10 F n J2 r (nI v) = mi_X9_records_J39 F (mc_u J1 0 1 (J1 0 1 - 1)) r ∧ (∀ x, x ≠ 1 → J1 x = J x) ∧ (∀ i, i < 177 ∨ 708 ≤ i → J1 1 i = J 1 i) ∧ (∀ q j, 1 ≤ q → q < 4 → j < 177 → J1 1 (177 * q + j) = J 1 (177 * (q + 1) + j)) := by
  intro n
  induction n with
  | zero => intro v _ _ _ h; omega
  | succ n ih =>
    intro v J2 hv1 hv2 hvn f0 f1 f2
    show ∃ J1, mi_X9_records_B10 _ F J2 _ _ = _ ∧ _
    unfold mi_X9_records_B10
    by_cases c : v = 4
    · subst c
      rw [if_pos (by decide)]
      exact ⟨J2, rfl, f0, fun i hi => f1 i (by omega), f2⟩
    · rw [if_neg (show ¬ (4 : Int32) ≤ nI v from zl_nle (a := 4) (by omega) (by omega)), show nI v + 1 = nI (v + 1) from nI_add v 1]
      obtain ⟨J3, e1, e2, e3⟩ := zr_copies (J := J2) (F := F) (r1 := v + 1) (r2 := v) hF (by omega) (by omega) (by omega)
      rw [e1, mz_ob]
      simp only [mz_bn]
      refine ih (v + 1) J3 (by omega) (by omega) (by omega) (fun x hx => by rw [e2.1 x hx]; exact f0 x hx) (fun i hi => ?_) (fun q j q1 q2 hj => ?_)
      · rw [e2.2 i (by omega)]
        exact f1 i (by omega)
      · by_cases e : q = v
        · subst e
          rw [e3 j hj]
          exact f1 _ (by omega)
        · rw [e2.2 _ (by omega)]
          exact f2 q j q1 (by omega) hj
theorem zz_pt.sep {R : Nat → Nat → Option Nat} {pt : Nat → Nat} (h : zz_pt R pt) {i j : Nat} (hi : i < 4) (hj : j < 4) (hij : i ≠ j) : pt i + 18 ≤ pt j ∨ pt j + 18 ≤ pt i := by
  obtain ⟨-, -, ⟨q, q1, q2⟩, -⟩ := h i hi
  obtain ⟨-, -, ⟨q', q1', q2'⟩, hne⟩ := h j hj
  have : q ≠ q' := fun e => hij (hne i hi (by rw [q2, q2', e]))
  omega
theorem zz_pt.rng {R : Nat → Nat → Option Nat} {pt : Nat → Nat} (h : zz_pt R pt) {i : Nat} (hi : i < 4) : 72 ≤ pt i ∧ pt i + 18 ≤ 144 := by
  obtain ⟨-, -, ⟨q, q1, q2⟩, -⟩ := h i hi
  omega
/-- where neither history nor its rows are touched -/
theorem zz_PH.keep {I I1 : Nat → Nat → Int32} {R R1 : Nat → Nat → Option Nat} {J J1 : Nat → Nat → Int32} {ns : Nat} {AH : Nat → mz_A} {pt : Nat → Nat} (h : zz_PH I R J ns AH pt) (hI : ∀ x, 72 ≤ x → x < 144 → I1 x = I x) (hI2 : I1 145 1 = I 145 1) (hR : ∀ x, 72 ≤ x → R1 x = R x) (hJ0 : J1 0 1 = J 0 1) (hJ : ∀ i, 177 ≤ i → i < 885 → J1 1 i = J 1 i) : zz_PH I1 R1 J1 ns AH pt := by
  obtain ⟨a1, a2, a3, a4, a5⟩ := h
  refine ⟨a1, by rw [hI2]; exact a2, by rw [hJ0]; exact a3, fun j hj => ?_, fun j hj => ?_⟩
  · obtain ⟨b1, b2, b3, b4⟩ := a4 j hj
    have := a4.rng hj
    exact ⟨by rw [hR 146 (by omega)]; exact b1, zc_RWkeep b2 (hR _ (by omega)), b3, b4⟩
  · obtain ⟨c1, c2, c3⟩ := a5 j hj
    have hr := a4.rng (show j < 4 by omega)
    exact ⟨zc_keep c3.1 (a4 j (by omega)).2.1 c1 (fun x x1 x2 => hI x (by omega) (by omega)) (hR _ (by omega)), zr_keep c3.1 c2 (fun i i1 i2 => hJ i (by omega) (by omega)), c3⟩
theorem za_add0 {I : Nat → Nat → Int32} {R : Nat → Nat → Option Nat} {J : Nat → Nat → Int32} {F ns s r : Nat} {AH : Nat → mz_A} {pt : Nat → Nat} {B : mz_A} (hF : 200 ≤ F) (h : zz_PH I R J ns AH pt) (hns : ns < 4) (hs : s + 18 ≤ 72) (hr : r = 0 ∨ r = 6) (hRs : zz_RW R s) (hC : zz_CS I R s B) (hJ : zz_RS J (177 * r) B) (hB : zz_ok B) : ∃ I1 J1 AH1, mi_X3_add_J12 F I R s = some (I1, R) ∧ mi_X9_records_J39 F J (nI r) = some J1 ∧ zz_PH I1 R J1 (ns + 1) AH1 pt ∧ (∀ x, x < 72 ∨ x = 144 ∨ 146 ≤ x → I1 x = I x) ∧ (∀ x, x ≠ 0 → x ≠ 1 → J1 x = J x) ∧ (∀ j, j ≠ 1 → J1 0 j = J 0 j) ∧ (∀ i, i < 177 ∨ 885 ≤ i → J1 1 i = J 1 i) := by
  obtain ⟨a1, a2, a3, a4, a5⟩ := h
  obtain ⟨b1, b2, b3, b4⟩ := a4 ns hns
  have hrg := a4.rng hns
  obtain ⟨I2, c1, c2, c3⟩ := zc_copyFrom (F := F) (by omega) b2 hRs (by omega) hB.1 hC
  have e145 : I2 145 1 = nI ns := by rw [c2 145 (by omega)]; exact a2
  have k1 : mi_X3_add_J12 F I R s = some (mc_u I2 145 1 (nI (ns + 1)), R) := by
    unfold mi_X3_add_J12 mi_X3_add_J40
    rw [a2]
    simp (disch := omega) only [zi_lit, zi_add, zi_mul, zi_le, zi_lt, zi_cl, Nat.not_lt_zero, zn_nle, zn_yle, zn_nlt, zn_ylt, if_false, if_true, or_false, false_or, mz_bn, b1, mz_oms]
    rw [c1, mz_ob, e145, nI_add]
  have k2 : ∃ J1, mi_X9_records_J39 F J (nI r) = some J1 ∧ J1 0 1 = nI (ns + 1) ∧ (∀ x, x ≠ 0 → x ≠ 1 → J1 x = J x) ∧ (∀ j, j ≠ 1 → J1 0 j = J 0 j) ∧ (∀ i, i < 177 * (ns + 1) ∨ 177 * (ns + 1) + 177 ≤ i → J1 1 i = J 1 i) ∧ ∀ j, j < 177 → J1 1 (177 * (ns + 1) + j) = J 1 (177 * r + j) := by
    unfold mi_X9_records_J39
    rw [a3, show nI ns + 1 = nI (ns + 1) from nI_add ns 1]
    simp only [mz_bn]
    rw [show mc_u J 0 1 (nI (ns + 1)) 0 1 = nI (ns + 1) by rw [mz_u, if_pos ⟨rfl, rfl⟩]]
    obtain ⟨J3, e1, e2, e3⟩ := zr_copies (J := mc_u J 0 1 (nI (ns + 1))) (F := F) (r1 := r) (r2 := ns + 1) hF (by omega) (by omega) (by omega)
    rw [e1, mz_ob]
    refine ⟨J3, rfl, ?_, fun x x1 x2 => ?_, fun j hj => ?_, fun i hi => ?_, fun j hj => ?_⟩
    · rw [e2.1 0 (by omega), mz_u, if_pos ⟨rfl, rfl⟩]
    · rw [e2.1 x x2, mz_ux _ x1]
    · rw [e2.1 0 (by omega), mz_u, if_neg (fun q => hj q.2)]
    · rw [e2.2 i hi, mz_ux _ (by omega)]
    · rw [e3 j hj, mz_ux _ (by omega)]
  obtain ⟨J1, d1, d2, d3, d4, d5, d6⟩ := k2
  refine ⟨_, J1, fun j => if j = ns then B else AH j, k1, d1, ⟨by omega, by rw [mz_u, if_pos ⟨rfl, rfl⟩], d2, a4, fun j hj => ?_⟩, fun x hx => ?_, d3, d4, fun i hi => d5 i (by omega)⟩
  · dsimp only
    by_cases e : j = ns
    · subst e
      rw [if_pos rfl]
      exact ⟨zc_keep hB.1 b2 c3 (fun x x1 x2 => mz_ux _ (by omega)) rfl, zr_like hB.1 hJ d6, hB⟩
    · rw [if_neg e]
      obtain ⟨g1, g2, g3⟩ := a5 j (by omega)
      have hsep := a4.sep (show j < 4 by omega) hns e
      have hrj := a4.rng (show j < 4 by omega)
      exact ⟨zc_keep g3.1 (a4 j (by omega)).2.1 g1 (fun x x1 x2 => by rw [mz_ux _ (by omega), c2 x (by omega)]) rfl, zr_keep g3.1 g2 (fun i i1 i2 => d5 i (by omega)), g3⟩
  · rw [mz_ux _ (by omega), c2 x (by omega)]
theorem za_add {I : Nat → Nat → Int32} {R : Nat → Nat → Option Nat} {J : Nat → Nat → Int32} {F ns s r : Nat} {AH : Nat → mz_A} {pt : Nat → Nat} {B : mz_A} (hF : 200 ≤ F) (h : zz_PH I R J ns AH pt) (hs : s + 18 ≤ 72) (hr : r = 0 ∨ r = 6) (hRs : zz_RW R s) (hC : zz_CS I R s B) (hJ : zz_RS J (177 * r) B) (hB : zz_ok B) : ∃ I1 R1 J1 ns1 AH1 pt1, mi_X3_add F I R s = some (I1, R1) ∧ mi_X9_records F J (nI r) = some J1 ∧ zz_PH I1 R1 J1 ns1 AH1 pt1 ∧ (∀ x, x < 72 ∨ x = 144 ∨ 146 ≤ x → I1 x = I x) ∧ (∀ x, x ≠ 146 → R1 x = R x) ∧ (∀ x, x ≠ 0 → x ≠ 1 → J1 x = J x) ∧ (∀ j, j ≠ 1 → J1 0 j = J 0 j) ∧ (∀ i, i < 177 ∨ 885 ≤ i → J1 1 i = J 1 i) := by
  have h' := h
  obtain ⟨a1, a2, a3, a4, a5⟩ := h
  unfold mi_X3_add mi_X9_records
  rw [a2, a3]
  by_cases c : ns < 4
  · rw [if_pos (show nI ns < 4 from zl_lt (b := 4) c (by omega)), if_neg (show ¬ nI ns = 4 from fun q => by have := (nI_eq (b := 4) (by omega) (by omega)).mp q; omega)]
    obtain ⟨I1, J1, AH1, e1, e2, e3, e4, e5, e6, e7⟩ := za_add0 hF h' c hs hr hRs hC hJ hB
    exact ⟨I1, R, J1, ns + 1, AH1, pt, e1, e2, e3, e4, fun _ _ => rfl, e5, e6, e7⟩
  · have hn4 : ns = 4 := by omega
    subst hn4
    rw [if_neg (by decide), if_pos (by decide)]
    obtain ⟨R1, d1, d2, d3⟩ := zc_dropL (I := I) (F := F) (fun j hj => (a4 j hj).1) F 0 R (by omega) (by omega) (fun _ _ => rfl) (fun j _ j2 => (a4 j j2).1) (fun j hj => by omega)
    have hdrop : mi_X3_dropOldest F I R = some (mc_u I 145 1 (nI 3), R1) := by
      unfold mi_X3_dropOldest
      rw [if_neg (show ¬ ((0 : Int32) < 0 ∨ 4 ≤ (0 : Int32).toNatClampNeg) by decide)]
      simp only [mz_bn]
      rw [show (0 : Int32).toNatClampNeg = 0 from rfl, (a4 0 (by omega)).1]
      exact d1
    rw [hdrop, mz_ob2]
    obtain ⟨J2, f1, f2, f3, f4⟩ := zr_dropL (J := J) (F := F) (r := nI r) hF F 1 J (by omega) (by omega) (by omega) (fun _ _ => rfl) (fun _ _ => rfl) (fun q j q1 q2 _ => by omega)
    rw [show mi_X9_records_L10 F F J (nI r) 1 = _ from f1]
    have e01 : J2 0 1 = nI 4 := by rw [f2 0 (by omega)]; exact a3
    rw [e01, show nI 4 - 1 = nI 3 by decide]
    have hpt : zz_pt R1 (fun j => if j < 3 then pt (j + 1) else pt 0) := by
      intro j hj
      refine ⟨d3 j hj, ?_, ?_, fun i hi e => ?_⟩
      · dsimp only
        have hx : ∀ q, q < 4 → zz_RW R1 (pt q) := fun q hq => by
          have := a4.rng hq
          exact zc_RWkeep (a4 q hq).2.1 (d2 _ (by omega))
        split
        · exact hx _ (by omega)
        · exact hx _ (by omega)
      · dsimp only
        split
        · exact (a4 _ (by omega)).2.2.1
        · exact (a4 _ (by omega)).2.2.1
      · dsimp only at e
        by_cases ci : i < 3
        · rw [if_pos ci] at e
          by_cases cj : j < 3
          · rw [if_pos cj] at e
            have := (a4 (j + 1) (by omega)).2.2.2 (i + 1) (by omega) e
            omega
          · rw [if_neg cj] at e
            have := (a4 0 (by omega)).2.2.2 (i + 1) (by omega) e
            omega
        · rw [if_neg ci] at e
          by_cases cj : j < 3
          · rw [if_pos cj] at e
            have := (a4 (j + 1) (by omega)).2.2.2 0 (by omega) e
            omega
          · omega
    have hPH : zz_PH (mc_u I 145 1 (nI 3)) R1 (mc_u J2 0 1 (nI 3)) 3 (fun j => AH (j + 1)) (fun j => if j < 3 then pt (j + 1) else pt 0) := by
      refine ⟨by omega, by rw [mz_u, if_pos ⟨rfl, rfl⟩], by rw [mz_u, if_pos ⟨rfl, rfl⟩], hpt, fun j hj => ?_⟩
      dsimp only
      rw [if_pos hj]
      obtain ⟨g1, g2, g3⟩ := a5 (j + 1) (by omega)
      have hrj := a4.rng (show j + 1 < 4 by omega)
      exact ⟨zc_keep g3.1 (a4 (j + 1) (by omega)).2.1 g1 (fun x x1 x2 => mz_ux _ (by omega)) (d2 _ (by omega)), zr_like g3.1 g2 (fun q hq => by rw [mz_ux _ (by omega)]; exact f4 (j + 1) q (by omega) (by omega) hq), g3⟩
    have hCB : zz_CS (mc_u I 145 1 (nI 3)) R1 s B := zc_keep hB.1 hRs hC (fun x x1 x2 => mz_ux _ (by omega)) (d2 _ (by omega))
    have hJB : zz_RS (mc_u J2 0 1 (nI 3)) (177 * r) B := zr_keep hB.1 hJ (fun i i1 i2 => by rw [mz_ux _ (by omega)]; exact f3 i (by omega))
    obtain ⟨I1, J1, AH1, e1, e2, e3, e4, e5, e6, e7⟩ := za_add0 hF hPH (by omega) hs hr (zc_RWkeep hRs (d2 _ (by omega))) hCB hJB hB
    refine ⟨I1, R1, J1, 3 + 1, AH1, _, e1, e2, e3, fun x hx => ?_, d2, fun x x1 x2 => ?_, fun j hj => ?_, fun i hi => ?_⟩
    · rw [e4 x hx, mz_ux _ (by omega)]
    · rw [e5 x x1 x2, mz_ux _ x1, f2 x x2]
    · rw [e6 j hj, mz_u, if_neg (fun q => hj q.2), f2 0 (by omega)]
    · rw [e7 i hi, mz_ux _ (by omega), f3 i (by omega)]

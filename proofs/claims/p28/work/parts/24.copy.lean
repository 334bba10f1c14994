/-! copies of whole states, in the class and in the reference -/
theorem zc_keep {I I1 : Nat → Nat → Int32} {R R1 : Nat → Nat → Option Nat} {a : Nat} {A : mz_A} (hW : zz_WF A) (hR : zz_RW R a) (h : zz_CS I R a A) (hI : ∀ x, a ≤ x → x < a + 18 → I1 x = I x) (hR1 : R1 (a + 7) = R (a + 7)) : zz_CS I1 R1 a A := by
  obtain ⟨p, sl, lo, nb, nm, mb, ms, sc, bt⟩ := A
  obtain ⟨⟨-, -, -, hn, hm2⟩, -⟩ := hW
  obtain ⟨⟨h0, h1, h2, h3, h4, h5, h6, h7, h8, h9, h10, h11, h12⟩, hw, hm, hb⟩ := h
  have hbp : ∀ k, zz_bp R1 a k = zz_bp R a k := fun k => by unfold zz_bp; rw [hR1]
  refine ⟨⟨?_, ?_, ?_, ?_, ?_, ?_, ?_, ?_, ?_, ?_, ?_, ?_, ?_⟩, fun k hk => ?_, fun k hk => ?_, fun k hk => ?_⟩
  · rw [hI _ (by omega) (by omega)]; exact h0
  · rw [hI _ (by omega) (by omega)]; exact h1
  · rw [hI _ (by omega) (by omega)]; exact h2
  · rw [hI _ (by omega) (by omega)]; exact h3
  · rw [hI _ (by omega) (by omega)]; exact h4
  · rw [hI _ (by omega) (by omega)]; exact h5
  · rw [hI _ (by omega) (by omega)]; exact h6
  · rw [hI _ (by omega) (by omega)]; exact h7
  · rw [hI _ (by omega) (by omega)]; exact h8
  · rw [hI _ (by omega) (by omega)]; exact h9
  · rw [hI _ (by omega) (by omega)]; exact h10
  · rw [hI _ (by omega) (by omega)]; exact h11
  · rw [hI _ (by omega) (by omega)]; exact h12
  · rw [hI _ (by omega) (by omega), hI _ (by omega) (by omega)]; exact hw k hk
  · rw [hI _ (by omega) (by omega)]; exact hm k hk
  · have := hR k (by omega)
    rw [hbp, hI _ (by omega) (by omega)]
    exact hb k hk
theorem zc_RWkeep {R R1 : Nat → Nat → Option Nat} {a : Nat} (h : zz_RW R a) (hR1 : R1 (a + 7) = R (a + 7)) : zz_RW R1 a := by
  have hbp : ∀ k, zz_bp R1 a k = zz_bp R a k := fun k => by unfold zz_bp; rw [hR1]
  intro k hk
  rw [hbp, hR1]
  exact ⟨(h k hk).1, (h k hk).2.1, (h k hk).2.2.1, fun j hj e => (h k hk).2.2.2 j hj (by rw [hbp] at e; exact e)⟩
theorem zn_bool {x : Int32} (h : x = 0 ∨ x = 1) : (x ≠ 0 ∧ x ≠ 1) = False := eq_false (fun q => h.elim q.1 q.2)
theorem zn_boolN {n : Nat} (h : n ≤ 1) : nI n = 0 ∨ nI n = 1 := by
  rcases (show n = 0 ∨ n = 1 by omega) with rfl | rfl
  · exact Or.inl rfl
  · exact Or.inr rfl
theorem zc_cp1 {I : Nat → Nat → Int32} {d s : Nat} (hds : d ≠ s) (hb : I s 2 = 0 ∨ I s 2 = 1) : ∃ I1, mi_X1_copyFrom I d s = some I1 ∧ (∀ x, x ≠ d → I1 x = I x) ∧ ∀ f, f < 3 → I1 d f = I s f := by
  unfold mi_X1_copyFrom
  simp only [mz_bn]
  have e1 : ∀ f, mc_u I d 0 (I s 0) s f = I s f := fun f => by rw [mz_u, if_neg (by omega)]
  rw [e1]
  have e2 : ∀ f, mc_u (mc_u I d 0 (I s 0)) d 1 (I s 1) s f = I s f := fun f => by rw [mz_u, if_neg (by omega)]; exact e1 f
  simp only [e2, zn_bool hb, if_false]
  refine ⟨_, rfl, fun x hx => by rw [mz_ux _ hx, mz_ux _ hx, mz_ux _ hx], fun f hf => ?_⟩
  rcases (show f = 0 ∨ f = 1 ∨ f = 2 by omega) with rfl | rfl | rfl <;> simp [mz_u]
theorem zc_cp0 {I : Nat → Nat → Int32} {d s : Nat} (hds : d ≠ s) (h1 : I s 1 = 0 ∨ I s 1 = 1) (h3 : I s 3 = 0 ∨ I s 3 = 1) (h4 : I s 4 = 0 ∨ I s 4 = 1) : ∃ I1, mi_X0_copyFrom I d s = some I1 ∧ (∀ x, x ≠ d → I1 x = I x) ∧ ∀ f, f < 11 → I1 d f = I s f := by
  unfold mi_X0_copyFrom
  have hs : s ≠ d := fun q => hds q.symm
  have e : ∀ (K : Nat → Nat → Int32) (k f : Nat) (v : Int32), mc_u K d k v s f = K s f := fun K k f v => by rw [mz_u, if_neg (by omega)]
  simp only [mz_bn, e, zn_bool h1, zn_bool h3, zn_bool h4, if_false]
  refine ⟨_, rfl, fun x hx => ?_, fun f hf => ?_⟩
  · simp only [mz_ux _ hx]
  · rcases (show f = 0 ∨ f = 1 ∨ f = 2 ∨ f = 3 ∨ f = 4 ∨ f = 5 ∨ f = 6 ∨ f = 7 ∨ f = 8 ∨ f = 9 ∨ f = 10 by omega) with rfl | rfl | rfl | rfl | rfl | rfl | rfl | rfl | rfl | rfl | rfl <;> simp [mz_u]
theorem zc_cp7L {I : Nat → Nat → Int32} {F d s : Nat} (hds : d + 2 < s ∨ s + 2 < d) : ∀ (n k : Nat) (I0 : Nat → Nat → Int32), k ≤ 10 → 10 - k < n → (∀ x, x ≠ d + 1 → x ≠ d + 2 → I0 x = I x) → (∀ j, j < k → I0 (d + 1) j = I (s + 1) j ∧ I0 (d + 2) j = I (s + 2) j) → ∃ I1, mi_X7_copyFrom_L2 F n I0 d s (nI k) = some I1 ∧ (∀ x, x ≠ d + 1 → x ≠ d + 2 → I1 x = I x) ∧ ∀ j, j < 10 → I1 (d + 1) j = I (s + 1) j ∧ I1 (d + 2) j = I (s + 2) j := by
  intro n
  induction n with
  | zero => intro k I0 _ h; omega
  | succ n ih =>
    intro k I0 hk hn hf hj
    show ∃ I1, mi_X7_copyFrom_B2 _ F I0 _ _ _ = some I1 ∧ _
    unfold mi_X7_copyFrom_B2
    by_cases hd : 10 ≤ k
    · simp (disch := omega) only [zi_lit, zi_add, zi_mul, zi_le, zi_lt, zi_cl, Nat.not_lt_zero, zn_nle, zn_yle, zn_nlt, zn_ylt, if_false, if_true, or_false, false_or, mz_bn]
      exact ⟨I0, rfl, hf, fun j h => hj j (by omega)⟩
    · simp (disch := omega) only [zi_lit, zi_add, zi_mul, zi_le, zi_lt, zi_cl, Nat.not_lt_zero, zn_nle, zn_yle, zn_nlt, zn_ylt, if_false, if_true, or_false, false_or, mz_bn]
      refine ih (k + 1) _ (by omega) (by omega) (fun x h1 h2 => ?_) (fun j h => ?_)
      · rw [mz_ux _ h2, mz_ux _ h1]
        exact hf x h1 h2
      · by_cases hjk : j = k
        · subst hjk
          refine ⟨?_, ?_⟩
          · rw [mz_u, if_neg (by omega), mz_u, if_pos ⟨rfl, rfl⟩, hf _ (by omega) (by omega)]
          · rw [mz_u, if_pos ⟨rfl, rfl⟩, mz_u, if_neg (by omega), hf _ (by omega) (by omega)]
        · refine ⟨?_, ?_⟩
          · rw [mz_u, if_neg (by omega), mz_u, if_neg (by omega)]
            exact (hj j (by omega)).1
          · rw [mz_u, if_neg (by omega), mz_u, if_neg (by omega)]
            exact (hj j (by omega)).2
theorem zc_cp7 {I : Nat → Nat → Int32} {F d s : Nat} (hF : 20 ≤ F) (hds : d + 2 < s ∨ s + 2 < d) : ∃ I1, mi_X7_copyFrom F I d s = some I1 ∧ (∀ x, x ≠ d + 1 → x ≠ d + 2 → I1 x = I x) ∧ ∀ j, j < 10 → I1 (d + 1) j = I (s + 1) j ∧ I1 (d + 2) j = I (s + 2) j :=
  zc_cp7L hds F 0 I (by omega) (by omega) (fun _ _ _ => rfl) (fun j h => by omega)
theorem zc_cp4L {I : Nat → Nat → Int32} {F d s : Nat} (hds : d + 1 < s ∨ s + 1 < d) : ∀ (n k : Nat) (I0 : Nat → Nat → Int32), k ≤ 12 → 12 - k < n → (∀ x, x ≠ d + 1 → I0 x = I x) → (∀ j, j < k → I0 (d + 1) j = I (s + 1) j) → ∃ I1, mi_X4_copyFrom_L2 F n I0 d s (nI k) = some I1 ∧ (∀ x, x ≠ d → x ≠ d + 1 → I1 x = I x) ∧ (∀ j, j < 12 → I1 (d + 1) j = I (s + 1) j) ∧ ∀ f, 1 ≤ f → f < 7 → I1 d f = I s f := by
  intro n
  induction n with
  | zero => intro k I0 _ h; omega
  | succ n ih =>
    intro k I0 hk hn hf hj
    show ∃ I1, mi_X4_copyFrom_B2 _ F I0 _ _ _ = some I1 ∧ _
    unfold mi_X4_copyFrom_B2
    by_cases hd : 12 ≤ k
    · rw [if_pos (show (12 : Int32) ≤ nI k from zl_le (a := 12) (b := k) hd (by omega))]
      have e : ∀ (K : Nat → Nat → Int32) (k f : Nat) (v : Int32), mc_u K d k v s f = K s f := fun K k f v => by rw [mz_u, if_neg (by omega)]
      simp only [mz_bn, e]
      refine ⟨_, rfl, fun x h1 h2 => ?_, fun j h => ?_, fun f h1 h2 => ?_⟩
      · simp only [mz_ux _ h1]
        exact hf x h2
      · simp only [mz_ux _ (show d + 1 ≠ d by omega)]
        exact hj j (by omega)
      · rcases (show f = 1 ∨ f = 2 ∨ f = 3 ∨ f = 4 ∨ f = 5 ∨ f = 6 by omega) with rfl | rfl | rfl | rfl | rfl | rfl <;> simp [mz_u] <;> rw [hf _ (by omega)]
    · rw [if_neg (show ¬ (12 : Int32) ≤ nI k from zl_nle (a := 12) (b := k) (by omega) (by omega))]
      simp (disch := omega) only [zi_lit, zi_add, zi_mul, zi_le, zi_lt, zi_cl, Nat.not_lt_zero, zn_nle, zn_yle, zn_nlt, zn_ylt, if_false, if_true, or_false, false_or, mz_bn]
      refine ih (k + 1) _ (by omega) (by omega) (fun x h1 => ?_) (fun j h => ?_)
      · rw [mz_ux _ h1]
        exact hf x h1
      · rw [mz_u]
        by_cases hjk : j = k
        · subst hjk
          rw [if_pos ⟨rfl, rfl⟩, hf _ (by omega)]
        · rw [if_neg (by omega)]
          exact hj j (by omega)
theorem zc_cp4 {I : Nat → Nat → Int32} {F d s : Nat} (hF : 20 ≤ F) (hds : d + 1 < s ∨ s + 1 < d) : ∃ I1, mi_X4_copyFrom F I d s = some I1 ∧ (∀ x, x ≠ d → x ≠ d + 1 → I1 x = I x) ∧ (∀ j, j < 12 → I1 (d + 1) j = I (s + 1) j) ∧ ∀ f, 1 ≤ f → f < 7 → I1 d f = I s f :=
  zc_cp4L hds F 0 I (by omega) (by omega) (fun _ _ => rfl) (fun j h => by omega)
theorem zc_cpBL {I : Nat → Nat → Int32} {R : Nat → Nat → Option Nat} {F d s nb : Nat} (hRd : zz_RW R d) (hRs : zz_RW R s) (hds : d + 18 ≤ s ∨ s + 18 ≤ d) (hn : nb ≤ 10) (hd4 : I d 4 = nI nb) (hs4 : I s 4 = nI nb) (hz : ∀ k, k < nb → (I (zz_bp R s k) 1 = 0 ∨ I (zz_bp R s k) 1 = 1) ∧ (I (zz_bp R s k) 3 = 0 ∨ I (zz_bp R s k) 3 = 1) ∧ (I (zz_bp R s k) 4 = 0 ∨ I (zz_bp R s k) 4 = 1)) :
    ∀ (n k : Nat) (I0 : Nat → Nat → Int32), k ≤ nb → nb - k < n → (∀ x, (x < d + 8 ∨ d + 18 ≤ x) → I0 x = I x) → (∀ j, j < k → ∀ f, f < 11 → I0 (zz_bp R d j) f = I (zz_bp R s j) f) → ∃ I1, mi_X5_copyFrom_L67 F n I0 R d s (nI k) = some I1 ∧ (∀ x, (x < d + 8 ∨ d + 18 ≤ x) → I1 x = I x) ∧ ∀ j, j < nb → ∀ f, f < 11 → I1 (zz_bp R d j) f = I (zz_bp R s j) f := by
  intro n
  induction n with
  | zero => intro k I0 _ h; omega
  | succ n ih =>
    intro k I0 hk hn2 hf hj
    show ∃ I1, mi_X5_copyFrom_B67 _ F I0 R _ _ _ = some I1 ∧ _
    unfold mi_X5_copyFrom_B67
    rw [hf d (by omega), hd4]
    by_cases hd : nb ≤ k
    · rw [if_pos (zl_le hd (by omega))]
      exact ⟨I0, rfl, hf, fun j h => hj j (by omega)⟩
    · have b1 := hRd k (by omega)
      have b2 := hRs k (by omega)
      rw [if_neg (zl_nle (by omega) (by omega)), zc_bottleAt hRd (by rw [hf d (by omega)]; exact hd4) hn (by omega), mz_ob, zc_bottleAt hRs (by rw [hf s (by omega)]; exact hs4) hn (by omega), mz_ob, mz_oms, mz_oms]
      have e0 : I0 (zz_bp R s k) = I (zz_bp R s k) := hf _ (by omega)
      obtain ⟨z1, z3, z4⟩ := hz k (by omega)
      obtain ⟨I1, q1, q2, q3⟩ := zc_cp0 (I := I0) (d := zz_bp R d k) (s := zz_bp R s k) (by omega) (by rw [e0]; exact z1) (by rw [e0]; exact z3) (by rw [e0]; exact z4)
      rw [q1, mz_ob]
      simp only [mz_bn, zi_lit, zi_add]
      refine ih (k + 1) I1 (by omega) (by omega) (fun x hx => ?_) (fun j h f hf11 => ?_)
      · rw [q2 x (by omega)]
        exact hf x hx
      · by_cases hjk : j = k
        · subst hjk
          rw [q3 f hf11, e0]
        · rw [q2 _ (fun q => hjk (((b1.2.2.2 j (by omega) q.symm).symm)))]
          exact hj j (by omega) f hf11
/-- a state is copied -/
theorem zc_copyFrom {I : Nat → Nat → Int32} {R : Nat → Nat → Option Nat} {F d s : Nat} {A : mz_A} (hF : 20 ≤ F) (hRd : zz_RW R d) (hRs : zz_RW R s) (hds : d + 18 ≤ s ∨ s + 18 ≤ d) (hW : zz_WF A) (hC : zz_CS I R s A) : ∃ I1, mi_X5_copyFrom F I R d s = some I1 ∧ zz_fr d I I1 ∧ zz_CS I1 R d A := by
  obtain ⟨p, sl, lo, nb, nm, mb, ms, sc, bt⟩ := A
  obtain ⟨⟨w1, w2, w3, w4, w5⟩, -, -, -, -, w6⟩ := hW
  obtain ⟨⟨h0, h1, h2, h3, h4, h5, h6, h7, h8, h9, h10, h11, h12⟩, hw, hm, hb⟩ := hC
  unfold mi_X5_copyFrom
  obtain ⟨I1, a1, a2, a3⟩ := zc_cp1 (I := I) (d := d + 1) (s := s + 1) (by omega) (by rw [h2]; exact zn_boolN w3)
  obtain ⟨I2, b1, b2, b3⟩ := zc_cp7 (I := I1) (F := F) (d := d + 2) (s := s + 2) hF (by omega)
  obtain ⟨I3, c1, c2, c3, c4⟩ := zc_cp4 (I := I2) (F := F) (d := d + 5) (s := s + 5) hF (by omega)
  rw [a1, mz_ob, b1, mz_ob, c1, mz_ob]
  simp only [mz_bn]
  have o3 : ∀ x, (x < d ∨ x = d ∨ d + 7 ≤ x) → I3 x = I x := fun x hx => by
    rw [c2 x (by omega) (by omega), b2 x (by omega) (by omega), a2 x (by omega)]
  have e : ∀ (K : Nat → Nat → Int32) (k f : Nat) (v : Int32), mc_u K d k v s f = K s f := fun K k f v => by rw [mz_u, if_neg (by omega)]
  simp only [e, o3 s (by omega)]
  generalize hI4 : mc_u (mc_u (mc_u (mc_u I3 d 4 (I s 4)) d 5 (I s 5)) d 6 (I s 6)) d 7 (I s 7) = I4
  have o4 : ∀ x, x ≠ d → I4 x = I3 x := fun x hx => by rw [← hI4]; simp only [mz_ux _ hx]
  have p4 : I4 d 4 = I s 4 := by rw [← hI4]; simp [mz_u]
  have p5 : I4 d 5 = I s 5 := by rw [← hI4]; simp [mz_u]
  have p6 : I4 d 6 = I s 6 := by rw [← hI4]; simp [mz_u]
  have p7 : I4 d 7 = I s 7 := by rw [← hI4]; simp [mz_u]
  have os : ∀ x, s ≤ x → x < s + 18 → I4 x = I x := fun x h1 h2 => by rw [o4 x (by omega), o3 x (by omega)]
  obtain ⟨I5, q1, q2, q3⟩ := zc_cpBL (I := I4) (F := F) (nb := nb) hRd hRs hds w4 (by rw [p4]; exact h3) (by rw [os s (by omega) (by omega)]; exact h3) (fun k hk => by
    have := hRs k (by omega)
    rw [os _ (by omega) (by omega)]
    obtain ⟨g0, g1, g2, g3, g4, -⟩ := hb k hk
    obtain ⟨v1, v2, v4⟩ := w6 k hk
    rw [g1, g3, g4]
    exact ⟨v2, v1, v4⟩) F 0 I4 (by omega) (by omega) (fun _ _ => rfl) (fun j h => by omega)
  refine ⟨I5, q1, fun x hx => ?_, ⟨⟨?_, ?_, ?_, ?_, ?_, ?_, ?_, ?_, ?_, ?_, ?_, ?_, ?_⟩, fun k hk => ?_, fun k hk => ?_, fun k hk => ?_⟩⟩
  · rw [q2 x (by omega), o4 x (by omega), o3 x (by omega)]
  · rw [q2 _ (by omega), o4 _ (by omega), c2 _ (by omega) (by omega), b2 _ (by omega) (by omega), a3 0 (by omega)]; exact h0
  · rw [q2 _ (by omega), o4 _ (by omega), c2 _ (by omega) (by omega), b2 _ (by omega) (by omega), a3 1 (by omega)]; exact h1
  · rw [q2 _ (by omega), o4 _ (by omega), c2 _ (by omega) (by omega), b2 _ (by omega) (by omega), a3 2 (by omega)]; exact h2
  · rw [q2 _ (by omega), p4]; exact h3
  · rw [q2 _ (by omega), o4 _ (by omega), c4 1 (by omega) (by omega), b2 _ (by omega) (by omega), a2 _ (by omega)]; exact h4
  · rw [q2 _ (by omega), p5]; exact h5
  · rw [q2 _ (by omega), p6]; exact h6
  · rw [q2 _ (by omega), p7]; exact h7
  · rw [q2 _ (by omega), o4 _ (by omega), c4 2 (by omega) (by omega), b2 _ (by omega) (by omega), a2 _ (by omega)]; exact h8
  · rw [q2 _ (by omega), o4 _ (by omega), c4 3 (by omega) (by omega), b2 _ (by omega) (by omega), a2 _ (by omega)]; exact h9
  · rw [q2 _ (by omega), o4 _ (by omega), c4 4 (by omega) (by omega), b2 _ (by omega) (by omega), a2 _ (by omega)]; exact h10
  · rw [q2 _ (by omega), o4 _ (by omega), c4 5 (by omega) (by omega), b2 _ (by omega) (by omega), a2 _ (by omega)]; exact h11
  · rw [q2 _ (by omega), o4 _ (by omega), c4 6 (by omega) (by omega), b2 _ (by omega) (by omega), a2 _ (by omega)]; exact h12
  · have := b3 k hk
    rw [q2 _ (by omega), o4 _ (by omega), c2 _ (by omega) (by omega), q2 _ (by omega), o4 _ (by omega), c2 _ (by omega) (by omega)]
    refine ⟨(b3 k hk).1.trans ?_, (b3 k hk).2.trans ?_⟩
    · rw [a2 _ (by omega)]; exact (hw k hk).1
    · rw [a2 _ (by omega)]; exact (hw k hk).2
  · rw [q2 _ (by omega), o4 _ (by omega)]
    refine (c3 k (by omega)).trans ?_
    rw [b2 _ (by omega) (by omega), a2 _ (by omega)]
    exact hm k hk
  · have := hRs k (by omega)
    have e1 : ∀ f, f < 11 → I5 (zz_bp R d k) f = I (zz_bp R s k) f := fun f hf => by rw [q3 k hk f hf, os _ (by omega) (by omega)]
    obtain ⟨g0, g1, g2, g3, g4, g5⟩ := hb k hk
    refine ⟨by rw [e1 0 (by omega)]; exact g0, by rw [e1 1 (by omega)]; exact g1, by rw [e1 2 (by omega)]; exact g2, by rw [e1 3 (by omega)]; exact g3, by rw [e1 4 (by omega)]; exact g4, fun ht => ?_⟩
    rw [e1 5 (by omega), e1 6 (by omega), e1 7 (by omega), e1 8 (by omega), e1 9 (by omega), e1 10 (by omega)]
    exact g5 ht


/-! water, send -/
theorem zn_hi {x : Int32} {n : Nat} (h : nI n < x) (hn : n < 2147483647) : nI (n + 1) ≤ x := by
  rw [Int32.lt_iff_toInt_lt, nI_toInt (by omega)] at h
  rw [Int32.le_iff_toInt_le, nI_toInt (by omega)]
  omega
def sq_water (k w s : Int32) : mz_A → mz_A × Int32
  | (p, sl, lo, nb, nm, mb, ms, sc, bt) => if k < 0 ∨ 9 < k then ((p, sl, lo, nb, nm, mb, ms, sc, bt), -1001) else if w < -20 ∨ 300 < w ∨ s < 0 ∨ 420 < s then ((p, sl, lo, nb, nm, mb, ms, sc, bt), -1002) else if sc (13 + 2 * k.toNatClampNeg) = w ∧ sc (14 + 2 * k.toNatClampNeg) = s then ((p, sl, lo, nb, nm, mb, ms, sc, bt), -1005) else ((p, sl, lo, nb, nm, mb, ms, va_up (va_up sc (13 + 2 * k.toNatClampNeg) w) (14 + 2 * k.toNatClampNeg) s, bt), sc (13 + 2 * k.toNatClampNeg))
theorem zw_water {A : mz_A} (k w s : Int32) (hW : zz_WF A) : zz_WF (sq_water k w s A).1 := by
  obtain ⟨p, sl, lo, nb, nm, mb, ms, sc, bt⟩ := A
  unfold sq_water
  dsimp only
  split
  · exact hW
  · split
    · exact hW
    · split
      · exact hW
      · exact hW
theorem zu_water {I : Nat → Nat → Int32} {R : Nat → Nat → Option Nat} {a p sl lo nb nm : Nat} {mb ms : Nat → Nat} {sc : Nat → Int32} {bt : Nat → Nat → Int32} (hC : zz_CS I R a (p, sl, lo, nb, nm, mb, ms, sc, bt)) (hR : zz_RW R a) (hn : nb ≤ 10) {j : Nat} (hj : j < 10) (w s : Int32) : zz_CS (mc_u (mc_u I (a + 3) j w) (a + 4) j s) R a (p, sl, lo, nb, nm, mb, ms, va_up (va_up sc (13 + 2 * j) w) (14 + 2 * j) s, bt) := by
  obtain ⟨⟨h0, h1, h2, h3, h4, h5, h6, h7, h8, h9, h10, h11, h12⟩, hw, hm, hb⟩ := hC
  have e : ∀ x, x ≠ a + 3 → x ≠ a + 4 → mc_u (mc_u I (a + 3) j w) (a + 4) j s x = I x := fun x g1 g2 => by rw [mz_ux _ g2, mz_ux _ g1]
  have f : ∀ q, q ≠ 13 + 2 * j → q ≠ 14 + 2 * j → va_up (va_up sc (13 + 2 * j) w) (14 + 2 * j) s q = sc q := fun q g1 g2 => by rw [va_up_ne _ _ g2, va_up_ne _ _ g1]
  refine ⟨⟨?_, ?_, ?_, ?_, ?_, ?_, ?_, ?_, ?_, ?_, ?_, ?_, ?_⟩, fun k hk => ?_, fun k hk => ?_, fun k hk => ?_⟩
  · rw [e _ (by omega) (by omega)]; exact h0
  · rw [e _ (by omega) (by omega)]; exact h1
  · rw [e _ (by omega) (by omega)]; exact h2
  · rw [e _ (by omega) (by omega)]; exact h3
  · rw [e _ (by omega) (by omega)]; exact h4
  · rw [e _ (by omega) (by omega), f _ (by omega) (by omega)]; exact h5
  · rw [e _ (by omega) (by omega), f _ (by omega) (by omega)]; exact h6
  · rw [e _ (by omega) (by omega), f _ (by omega) (by omega)]; exact h7
  · rw [e _ (by omega) (by omega), f _ (by omega) (by omega)]; exact h8
  · rw [e _ (by omega) (by omega), f _ (by omega) (by omega)]; exact h9
  · rw [e _ (by omega) (by omega), f _ (by omega) (by omega)]; exact h10
  · rw [e _ (by omega) (by omega), f _ (by omega) (by omega)]; exact h11
  · rw [e _ (by omega) (by omega), f _ (by omega) (by omega)]; exact h12
  · by_cases hkj : k = j
    · subst hkj
      refine ⟨?_, ?_⟩
      · rw [mz_u, if_neg (by omega), mz_u, if_pos ⟨rfl, rfl⟩, va_up_ne _ _ (by omega), va_up_self]
      · rw [mz_u, if_pos ⟨rfl, rfl⟩, va_up_self]
    · rw [f _ (by omega) (by omega), f _ (by omega) (by omega), mz_u, if_neg (by omega), mz_u, if_neg (by omega), mz_u, if_neg (by omega), mz_u, if_neg (by omega)]
      exact hw k hk
  · rw [e _ (by omega) (by omega)]
    exact hm k hk
  · have := hR k (by omega)
    rw [e _ (by omega) (by omega)]
    exact hb k hk
theorem zc_water {I : Nat → Nat → Int32} {R : Nat → Nat → Option Nat} {a : Nat} {A : mz_A} (k w s : Int32) (hC : zz_CS I R a A) (hR : zz_RW R a) (hW : zz_WF A) : ∃ I1, mi_X7_change I (a + 2) k w s = some (I1, (sq_water k w s A).2) ∧ zz_fr a I I1 ∧ zz_CS I1 R a (sq_water k w s A).1 := by
  obtain ⟨p, sl, lo, nb, nm, mb, ms, sc, bt⟩ := A
  obtain ⟨⟨w1, w2, w3, w4, w5⟩, -⟩ := hW
  have hC' := hC
  obtain ⟨-, hw, -⟩ := hC
  unfold sq_water
  dsimp only
  unfold mi_X7_change
  rcases zn_ix k (n := 9) (by omega) with h | h | ⟨j, hj, rfl⟩
  · rw [if_pos (show k < 0 ∨ (9 : Int32) < k from Or.inl h), show mi_X7_has (a + 2) k = 0 by unfold mi_X7_has; rw [if_pos h], if_pos rfl]
    exact ⟨I, rfl, zz_fr.rfl, hC'⟩
  · have h9 : (10 : Int32) ≤ k := zn_hi h (by omega)
    rw [if_pos (Or.inr (show (9 : Int32) < k from h)), show mi_X7_has (a + 2) k = 0 by unfold mi_X7_has; rw [if_neg (zn_hi0 h (by omega)), if_pos h9], if_pos rfl]
    exact ⟨I, rfl, zz_fr.rfl, hC'⟩
  · rw [zc_has (by omega), if_neg (by decide), if_neg (show ¬ (nI j < 0 ∨ (9 : Int32) < nI j) from fun q => q.elim (fun q => absurd q (zl_nlt (b := 0) (by omega) (by omega))) (fun q => absurd q (zl_nlt (a := 9) hj (by omega)))), zi_cl (by omega)]
    by_cases hv : w < -20 ∨ 300 < w ∨ s < 0 ∨ 420 < s
    · rw [if_pos hv]
      refine ⟨I, ?_, zz_fr.rfl, hC'⟩
      by_cases v1 : w < -20
      · rw [if_pos v1]
      · rw [if_neg v1]
        by_cases v2 : 300 < w
        · rw [if_pos v2]
        · rw [if_neg v2]
          by_cases v3 : s < 0
          · rw [if_pos v3]
          · rw [if_neg v3, if_neg (zn_nle32 ((hv.resolve_left v1).resolve_left v2 |>.resolve_left v3))]
    · rw [if_neg hv, if_neg (fun q => hv (Or.inl q)), if_neg (fun q => hv (Or.inr (Or.inl q))), if_neg (fun q => hv (Or.inr (Or.inr (Or.inl q)))), if_pos (zn_le32 (fun q => hv (Or.inr (Or.inr (Or.inr q)))))]
      have e1 : I (a + 2 + 1) j = sc (13 + 2 * j) := (hw j (by omega)).1
      have e2 : I (a + 2 + 2) j = sc (14 + 2 * j) := (hw j (by omega)).2
      simp (disch := omega) only [zi_lit, zi_add, zi_mul, zi_le, zi_lt, zi_cl, Nat.not_lt_zero, zn_nle, zn_yle, zn_nlt, zn_ylt, if_false, if_true, or_false, false_or, mz_bn, e1, e2]
      have last : ∃ I1, mi_X7_change_J68 I (a + 2) (nI j) w s (sc (13 + 2 * j)) = some (I1, sc (13 + 2 * j)) ∧ zz_fr a I I1 ∧ zz_CS I1 R a (p, sl, lo, nb, nm, mb, ms, va_up (va_up sc (13 + 2 * j) w) (14 + 2 * j) s, bt) := by
        unfold mi_X7_change_J68
        simp (disch := omega) only [zi_lit, zi_add, zi_mul, zi_le, zi_lt, zi_cl, Nat.not_lt_zero, zn_nle, zn_yle, zn_nlt, zn_ylt, if_false, if_true, or_false, false_or, mz_bn]
        exact ⟨_, rfl, (zu_fr (by omega) (by omega)).trans (zu_fr (by omega) (by omega)), zu_water hC' hR w4 (by omega) w s⟩
      by_cases g1 : sc (13 + 2 * j) = w
      · by_cases g2 : sc (14 + 2 * j) = s
        · rw [if_pos g1, if_pos g2, if_pos ⟨g1, g2⟩]
          exact ⟨I, rfl, zz_fr.rfl, hC'⟩
        · rw [if_pos g1, if_neg g2, if_neg (fun q => g2 q.2)]
          exact last
      · rw [if_neg g1, if_neg (fun q => g1 q.1)]
        exact last
def sq_send : mz_A → mz_A × Int32
  | (p, sl, lo, nb, nm, mb, ms, sc, bt) => if p = 0 then ((p, sl, lo, nb, nm, mb, ms, sc, bt), -1004) else if nm = 12 then ((p, sl, lo, nb, nm, mb, ms, sc, bt), -1003) else ((p, sl, lo, nb, nm + 1, mb, va_up ms nm p, va_up sc 6 (sc 6 + nI 1), bt), nI (nm + 1))
theorem zw_send {A : mz_A} (hW : zz_WF A) : zz_WF (sq_send A).1 := by
  obtain ⟨p, sl, lo, nb, nm, mb, ms, sc, bt⟩ := A
  have hW' := hW
  obtain ⟨⟨w1, w2, w3, w4, w5⟩, x1, x2, x3, x4, x5⟩ := hW
  unfold sq_send
  dsimp only
  split
  · exact hW'
  · split
    · exact hW'
    · refine ⟨⟨w1, w2, w3, w4, by omega⟩, x1, x2, fun k hk => ?_, fun k j hkj hj => ?_, x5⟩
      · by_cases h : k = nm
        · subst h
          rw [va_up_self]
          omega
        · rw [va_up_ne _ _ h]
          exact x3 k (by omega)
      · by_cases h : j = nm
        · subst h
          rw [va_up_self]
          by_cases h2 : k = j
          · subst h2
            rw [va_up_self]
            exact Nat.le_refl _
          · rw [va_up_ne _ _ h2]
            exact (x3 k (by omega)).2
        · rw [va_up_ne _ _ h, va_up_ne _ _ (by omega)]
          exact x4 k j hkj (by omega)
theorem zc_send {I : Nat → Nat → Int32} {R : Nat → Nat → Option Nat} {a : Nat} {A : mz_A} (hC : zz_CS I R a A) (hR : zz_RW R a) (hW : zz_WF A) : ∃ I1, mi_X5_letGo I a = some (I1, (sq_send A).2) ∧ zz_fr a I I1 ∧ zz_CS I1 R a (sq_send A).1 := by
  obtain ⟨p, sl, lo, nb, nm, mb, ms, sc, bt⟩ := A
  obtain ⟨⟨w1, w2, w3, w4, w5⟩, -⟩ := hW
  have hC' := hC
  obtain ⟨⟨h0, h1, h2, h3, h4, h5, h6, h7, h8, -⟩, -⟩ := hC
  unfold sq_send
  dsimp only
  unfold mi_X5_letGo
  rw [h0, h4]
  by_cases g1 : p = 0
  · rw [if_pos g1, if_pos (by rw [g1]; rfl)]
    exact ⟨I, rfl, zz_fr.rfl, hC'⟩
  · rw [if_neg g1, if_neg (show ¬ nI p = 0 from fun q => g1 ((nI_eq (b := 0) (by omega) (by omega)).mp q))]
    by_cases g2 : nm = 12
    · rw [if_pos g2, if_neg (show ¬ nI nm < 12 from zl_nlt (b := 12) (by omega) (by omega))]
      exact ⟨I, rfl, zz_fr.rfl, hC'⟩
    · rw [if_neg g2, if_pos (show nI nm < 12 from zl_lt (b := 12) (by omega) (by omega)), zc_put (by omega), mz_ob]
      simp only [mz_bn]
      have e1 : mc_u I (a + 5 + 1) nm (nI p) (a + 5) 1 = nI nm := by rw [mz_u, if_neg (by omega)]; exact h4
      rw [e1, show nI nm + 1 = nI (nm + 1) from nI_add nm 1]
      have q1 := zu_nm1 hC' hR w4 p
      have e2 : mc_u (mc_u I (a + 5 + 1) nm (nI p)) (a + 5) 1 (nI (nm + 1)) (a + 5) 2 = sc 6 := q1.1.2.2.2.2.2.2.2.2.1
      rw [e2]
      have q2 := zu_s6 q1 hR w4 (sc 6 + nI 1)
      refine ⟨_, ?_, ((zu_fr (by omega) (by omega)).trans (zu_fr (by omega) (by omega))).trans (zu_fr (by omega) (by omega)), q2⟩
      rw [show mc_u (mc_u (mc_u I (a + 5 + 1) nm (nI p)) (a + 5) 1 (nI (nm + 1))) (a + 5) 2 (sc 6 + 1) (a + 5) 1 = nI (nm + 1) from q2.1.2.2.2.2.1]
      rfl

/-! the law answers true -/
theorem zz_RW0 {q : Nat} (hq : q < 8) : zz_RW mz_R0 (18 * q) := by
  have h : ∀ k, k < 10 → mz_R0 (18 * q + 7) k = some (18 * q + 8 + k) := fun k hk => by
    unfold mz_R0
    rw [if_pos (by omega), if_pos ⟨by omega, hk⟩]
  have hb : ∀ k, k < 10 → zz_bp mz_R0 (18 * q) k = 18 * q + 8 + k := fun k hk => by
    unfold zz_bp
    rw [h k hk]
    rfl
  intro k hk
  rw [hb k hk]
  exact ⟨h k hk, by omega, by omega, fun j hj e => by rw [hb j hj] at e; omega⟩
theorem zk_w0 : zk_w mx_m0 := by
  intro j hj
  rcases (show j = 0 ∨ j = 1 ∨ j = 2 ∨ j = 3 ∨ j = 4 ∨ j = 5 ∨ j = 6 ∨ j = 7 ∨ j = 8 ∨ j = 9 by omega) with rfl | rfl | rfl | rfl | rfl | rfl | rfl | rfl | rfl | rfl
  · exact ⟨⟨220, by omega, by decide +kernel⟩, ⟨340, by omega, by decide +kernel⟩⟩
  · exact ⟨⟨200, by omega, by decide +kernel⟩, ⟨341, by omega, by decide +kernel⟩⟩
  · exact ⟨⟨180, by omega, by decide +kernel⟩, ⟨342, by omega, by decide +kernel⟩⟩
  · exact ⟨⟨160, by omega, by decide +kernel⟩, ⟨343, by omega, by decide +kernel⟩⟩
  · exact ⟨⟨140, by omega, by decide +kernel⟩, ⟨344, by omega, by decide +kernel⟩⟩
  · exact ⟨⟨120, by omega, by decide +kernel⟩, ⟨345, by omega, by decide +kernel⟩⟩
  · exact ⟨⟨100, by omega, by decide +kernel⟩, ⟨346, by omega, by decide +kernel⟩⟩
  · exact ⟨⟨80, by omega, by decide +kernel⟩, ⟨347, by omega, by decide +kernel⟩⟩
  · exact ⟨⟨60, by omega, by decide +kernel⟩, ⟨348, by omega, by decide +kernel⟩⟩
  · exact ⟨⟨40, by omega, by decide +kernel⟩, ⟨349, by omega, by decide +kernel⟩⟩
theorem zl_R0 : zl_R mz_I0 mz_R0 (0, 0, 0, 0, 0, fun _ => 0, fun _ => 0, mx_m0, fun _ _ => 0) 0 (fun _ => (0, 0, 0, 0, 0, fun _ => 0, fun _ => 0, mx_m0, fun _ _ => 0)) := by
  refine ⟨⟨zz_RW0 (q := 0) (by omega), zz_RW0 (q := 1) (by omega), zz_RW0 (q := 2) (by omega)⟩, ?_, ⟨?_, 0, by omega, ?_, ⟨⟨200, by omega, ?_⟩, 20, by omega, ?_⟩, fun k hk => by omega, zk_w0, ?_⟩, fun j => 72 + 18 * j, Nat.zero_le _, ?_, fun j hj => ?_, fun j hj => by omega⟩
  · refine ⟨?_, ?_, fun k hk => by omega, fun k hk => by omega⟩
    · decide +kernel
    · decide +kernel
  · exact ⟨⟨by omega, by omega, by omega, by omega, by omega⟩, fun k hk => by omega, fun k j h1 h2 => by omega, fun k hk => by omega, fun k j h1 h2 => by omega, fun k hk => by omega⟩
  · decide +kernel
  · decide +kernel
  · decide +kernel
  · decide +kernel
  · decide +kernel
  · refine ⟨?_, ?_, ⟨j, hj, rfl⟩, fun i hi e => by dsimp only at e; omega⟩
    · unfold mz_R0
      rw [if_neg (by omega), if_pos ⟨rfl, hj⟩]
    · dsimp only
      rw [show 72 + 18 * j = 18 * (j + 4) by omega]
      exact zz_RW0 (by omega)
theorem zk_1000 {x : Int32} : (-1000 ≤ x) ↔ ¬ x ≤ -1001 := by
  rw [Int32.le_iff_toInt_le, Int32.le_iff_toInt_le, show (-1000 : Int32).toInt = -1000 by decide, show (-1001 : Int32).toInt = -1001 by decide]
  omega
section LAW
variable {L F k : Nat} {xs : Nat → Int32} {k15 : (Nat → Nat → Int32) → (Nat → Nat → Option Nat) → Int32 → Int32 → Option Int32}
theorem zk_l275 (hF : 1100 ≤ F) (hk : ∀ I R A ns AH, zl_R I R A ns AH → k15 I R 1 (nI (k + 1)) = some 1) {I : Nat → Nat → Int32} {R : Nat → Nat → Option Nat} {A : mz_A} {ns : Nat} {AH : Nat → mz_A} (h : zl_R I R A ns AH) (v5 : Int32) : mi_L_law_J275 k15 L xs F I R (nI k) v5 = some 1 := by
  unfold mi_L_law_J275
  simp only [mz_bn]
  rw [show nI k + 1 = nI (k + 1) from nI_add k 1]
  by_cases c : 0 < nI k - nI k / 4 * 4
  · rw [if_pos c]
    exact hk _ _ _ _ _ h
  · obtain ⟨j, hj, e⟩ := zk_low (v5 >>> (5 &&& 31)) (n := 1400) (by omega) (by omega)
    have ht : (nI j - nI 500).toInt = (j : Int) - (500 : Nat) := zn_subT (by omega) (by omega)
    obtain ⟨I1, R1, ns1, AH1, a, b⟩ := h.jerks hF (x := nI j - nI 500) (by omega) (by omega)
    rw [if_neg c, show mi_L_low (v5 >>> (5 &&& 31)) 1400 = _ from e, mz_ob, show mi_L_jerks F I R (nI j - 500) = _ from a, mz_ob3, if_neg zk_10]
    exact hk _ _ _ _ _ b
theorem zk_l240 (hF : 1100 ≤ F) (hk : ∀ I R A ns AH, zl_R I R A ns AH → k15 I R 1 (nI (k + 1)) = some 1) {I : Nat → Nat → Int32} {R : Nat → Nat → Option Nat} {A : mz_A} {ns : Nat} {AH : Nat → mz_A} (h : zl_R I R A ns AH) (v5 : Int32) : mi_L_law_J240 k15 L xs F I R 1 (nI k) v5 = some 1 := by
  unfold mi_L_law_J240
  simp only [mz_bn]
  rw [if_neg zk_10, h.hangs hF, mz_ob, if_neg zk_10]
  by_cases c : 0 < nI k - nI k / 3 * 3
  · rw [if_pos c]
    exact zk_l275 hF hk h v5
  · obtain ⟨j, hj, e⟩ := zk_low (v5 >>> (2 &&& 31)) (n := 60) (by omega) (by omega)
    obtain ⟨I1, R1, ns1, AH1, a, b⟩ := h.shuts hF (n := 1 + j) (by omega) (by omega)
    rw [if_neg c, show mi_L_low (v5 >>> (2 &&& 31)) 60 = _ from e, mz_ob, show (1 : Int32) + nI j = nI (1 + j) from nI_add 1 j, a, mz_ob3, if_neg zk_10]
    exact zk_l275 hF hk b v5
theorem zk_l102 (hF : 1100 ≤ F) (hk : ∀ I R A ns AH, zl_R I R A ns AH → k15 I R 1 (nI (k + 1)) = some 1) {I : Nat → Nat → Int32} {R : Nat → Nat → Option Nat} {A A1 : mz_A} {ns : Nat} {AH : Nat → mz_A} {v4 v5 r : Int32} (hk2 : k ≤ 44) (hns : ns ≤ 4)
    (h : (r ≤ -1001 ∧ A1 = A ∧ zl_R I R A ns AH) ∨ (¬ r ≤ -1001 ∧ ∃ AH1, zl_R I R A1 (sp_n1 ns + 1) AH1 ∧ AH1 (sp_n1 ns) = A))
    (hre : 4 < k → ∃ S, zl_act (fun I R => mi_L_act F I R v4 v5) S ∧ r = (S A).2) : mi_L_law_J102 k15 L xs F I R (nI k) v4 v5 (nI ns) (sv_pr A) r = some 1 := by
  unfold mi_L_law_J102
  rcases h with ⟨h1, -, h2⟩ | ⟨h1, AH1, h2, h3⟩
  · rw [if_neg (fun q => zk_1000.mp q h1), show mi_X8_count F I R 17 = some (nI ns) from h2.count hF 17 (by omega), mz_ob, if_pos rfl, h2.print hF, mz_ob, zk_cmp, if_pos rfl]
    exact zk_l240 hF hk h2 v5
  · rw [if_pos (zk_1000.mpr h1), show mi_X8_count F I R 17 = some (nI (sp_n1 ns + 1)) from h2.count hF 17 (by omega), mz_ob]
    have j170 : mi_L_law_J170 k15 L xs F I R (nI k) v4 v5 (nI ns) (sv_pr A) r 1 = some 1 := by
      unfold mi_L_law_J170
      rw [if_neg zk_10]
      by_cases c : k ≤ 4
      · rw [if_pos (show nI k ≤ 4 from zl_le (b := 4) c (by omega))]
        exact zk_l240 hF hk h2 v5
      · rw [if_neg (show ¬ nI k ≤ 4 from zl_nle (b := 4) (by omega) (by omega))]
        obtain ⟨j, hj, e⟩ := zk_low (v4 >>> (7 &&& 31)) (n := 4) (by omega) (by omega)
        rw [show mi_L_low (v4 >>> (7 &&& 31)) 4 = _ from e, mz_ob]
        by_cases c0 : nI j = 0
        · rw [if_pos c0]
          obtain ⟨I2, a, b⟩ := zl_undo hF h2
          rw [h3] at b
          rw [a, mz_ob2]
          obtain ⟨S, hS, hr⟩ := hre (by omega)
          obtain ⟨I3, R3, a3, b3⟩ := hS.2 I2 R A (sp_n1 ns) AH1 b
          dsimp only at a3
          have last : ∀ s0 : Int32, s0 = nI (sp_n1 ns) → mi_L_law_J208 k15 L xs F I2 R (nI k) v4 v5 (sv_pr A) r s0 (nI (sp_n1 ns)) = some 1 := by
            intro s0 hs
            unfold mi_L_law_J208
            rw [if_pos hs.symm, b.print hF, mz_ob, zk_cmp, if_pos rfl, a3, mz_ob3, if_pos hr.symm]
            rcases b3 with ⟨-, -, y⟩ | ⟨-, AH4, y, -⟩
            · exact zk_l240 hF hk y v5
            · exact zk_l240 hF hk y v5
          by_cases c4 : 4 ≤ ns
          · have : ns = 4 := by omega
            subst this
            rw [if_pos (show (4 : Int32) ≤ nI 4 by decide)]
            exact last 3 rfl
          · rw [if_neg (show ¬ (4 : Int32) ≤ nI ns from zl_nle (a := 4) (by omega) (by omega))]
            exact last _ (by rw [show sp_n1 ns = ns from if_pos (by omega)])
        · rw [if_neg c0]
          exact zk_l240 hF hk h2 v5
    have j162 : ∀ s0 : Int32, s0 = nI (sp_n1 ns + 1) → mi_L_law_J162 k15 L xs F I R (nI k) v4 v5 (nI ns) (sv_pr A) r s0 (nI (sp_n1 ns + 1)) = some 1 := by
      intro s0 hs
      unfold mi_L_law_J162
      rw [if_pos hs.symm]
      exact j170
    by_cases c4 : 4 ≤ ns
    · have : ns = 4 := by omega
      subst this
      rw [if_pos (show (4 : Int32) ≤ nI 4 by decide)]
      exact j162 4 rfl
    · rw [if_neg (show ¬ (4 : Int32) ≤ nI ns from zl_nle (a := 4) (by omega) (by omega)), show nI ns + 1 = nI (ns + 1) from nI_add ns 1]
      exact j162 _ (by rw [show sp_n1 ns = ns from if_pos (by omega)])
end LAW
theorem zk_lawL {L F : Nat} {xs : Nat → Int32} (hF : 1100 ≤ F) : ∀ (n k : Nat) (I : Nat → Nat → Int32) (R : Nat → Nat → Option Nat) (A : mz_A) (ns : Nat) (AH : Nat → mz_A), k ≤ 44 → 44 - k < n → zl_R I R A ns AH → mi_L_law_L15 L xs F n I R 1 (nI k) = some 1 := by
  intro n
  induction n with
  | zero => intro k I R A ns AH _ h; omega
  | succ n ih =>
    intro k I R A ns AH hk hkn h
    show mi_L_law_B15 _ L xs F I R 1 (nI k) = _
    have h4 := h.ns4
    unfold mi_L_law_B15
    by_cases c : 44 ≤ k
    · rw [if_pos (show 44 ≤ nI k from zl_le (a := 44) c (by omega))]
      unfold mi_L_law_J314
      rw [if_neg zk_10, h.hangs hF, mz_ob, if_neg zk_10]
    · have hgo : ∀ I R A ns AH, zl_R I R A ns AH → mi_L_law_L15 L xs F n I R 1 (nI (k + 1)) = some 1 := fun I R A ns AH h => ih (k + 1) I R A ns AH (by omega) (by omega) h
      have e2 : 2 * nI k = nI (2 * k) := zi_mul 2 k
      have e3 : nI (2 * k) + 1 = nI (2 * k + 1) := nI_add _ 1
      rw [if_neg (show ¬ 44 ≤ nI k from zl_nle (a := 44) (by omega) (by omega)), if_neg zk_10, e2, if_neg (show ¬ nI (2 * k) < 0 from zl_nlt (b := 0) (by omega) (by omega)), e3]
      simp only [mz_bn]
      rw [if_neg (show ¬ nI (2 * k + 1) < 0 from zl_nlt (b := 0) (by omega) (by omega))]
      generalize mz_cell L xs (nI (2 * k)) = v4
      generalize mz_cell L xs (nI (2 * k + 1)) = v5
      rw [show mi_X8_count F I R 17 = some (nI ns) from h.count hF 17 (by omega), mz_ob, h.print hF, mz_ob]
      by_cases c4 : 4 ≤ k
      · rw [if_pos (show 4 ≤ nI k from zl_le (a := 4) c4 (by omega))]
        obtain ⟨S, hS⟩ := zk_act hF v4 v5
        obtain ⟨I1, R1, a, b⟩ := hS.2 I R A ns AH h
        dsimp only at a
        rw [a, mz_ob3]
        exact zk_l102 hF hgo (by omega) h4 (b.imp (fun q => ⟨q.1, q.2.1, q.2.2⟩) id) (fun _ => ⟨S, hS, rfl⟩)
      · rw [if_neg (show ¬ 4 ≤ nI k from zl_nle (a := 4) (by omega) (by omega))]
        by_cases c5 : nI k - nI k / 2 * 2 = 0
        · obtain ⟨I1, R1, a, b⟩ := (zm_clamp hF (x := 1) (by omega)).2 I R A ns AH h
          dsimp only at a
          rw [if_pos c5, show mi_X8_clamp F I R 1 = _ from a, mz_ob3]
          exact zk_l102 hF hgo (by omega) h4 (b.imp (fun q => ⟨q.1, q.2.1, q.2.2⟩) id) (fun q => by omega)
        · obtain ⟨j, hj, e⟩ := zk_low v5 (n := 120) (by omega) (by omega)
          obtain ⟨I1, R1, a, b⟩ := (zm_pay hF (5 + nI j)).2 I R A ns AH h
          dsimp only at a
          rw [if_neg c5, show mi_L_low v5 120 = _ from e, mz_ob, a, mz_ob3]
          exact zk_l102 hF hgo (by omega) h4 (b.imp (fun q => ⟨q.1, q.2.1, q.2.2⟩) id) (fun q => by omega)
theorem mz_all (L : Nat) (xs : Nat → Int32) : mi_L_law L xs 1100 mz_I0 mz_R0 = some 1 := by
  unfold mi_L_law
  rw [zl_R0.hangs (F := 1100) (Nat.le_refl _), mz_ob]
  exact zk_lawL (Nat.le_refl _) 1100 0 _ _ _ _ _ (by omega) (by omega) zl_R0

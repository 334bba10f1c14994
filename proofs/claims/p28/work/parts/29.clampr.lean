/-! clamp in the reference; take off -/
/-! take off -/
def sq_take (x : Int32) : mz_A → mz_A × Int32
  | (p, sl, lo, nb, nm, mb, ms, sc, bt) => if x < 0 ∨ nI nb ≤ x then ((p, sl, lo, nb, nm, mb, ms, sc, bt), -1001) else if mb x.toNatClampNeg < p then ((p, sl, lo, nb, nm, mb, ms, sc, bt), -1004) else ((p, sl, lo, nb - 1, nm, sp_del mb x.toNatClampNeg, ms, sc, sp_del bt x.toNatClampNeg), nI (nb - 1))
theorem sq_take_no {x : Int32} {p sl lo nb nm : Nat} {mb ms : Nat → Nat} {sc : Nat → Int32} {bt : Nat → Nat → Int32} (h : x < 0 ∨ nI nb ≤ x) : sq_take x (p, sl, lo, nb, nm, mb, ms, sc, bt) = ((p, sl, lo, nb, nm, mb, ms, sc, bt), -1001) := if_pos h
theorem sq_take_yes {k p sl lo nb nm : Nat} {mb ms : Nat → Nat} {sc : Nat → Int32} {bt : Nat → Nat → Int32} (hk : k < nb) (hn : nb ≤ 10) : sq_take (nI k) (p, sl, lo, nb, nm, mb, ms, sc, bt) = if mb k < p then ((p, sl, lo, nb, nm, mb, ms, sc, bt), -1004) else ((p, sl, lo, nb - 1, nm, sp_del mb k, ms, sc, sp_del bt k), nI (nb - 1)) := by
  unfold sq_take
  dsimp only
  rw [if_neg (fun q => q.elim (fun q => absurd q (zl_nlt (b := 0) (by omega) (by omega))) (fun q => absurd q (zl_nle (by omega) (by omega)))), zi_cl (by omega)]
theorem zw_take {A : mz_A} (x : Int32) (hW : zz_WF A) : zz_WF (sq_take x A).1 := by
  obtain ⟨p, sl, lo, nb, nm, mb, ms, sc, bt⟩ := A
  have hW' := hW
  obtain ⟨⟨w1, w2, w3, w4, w5⟩, x1, x2, x3, x4, x5⟩ := hW
  rcases zn_ix2 x (n := nb) (by omega) with h | h | ⟨k, hk, rfl⟩
  · rw [sq_take_no (Or.inl h)]
    exact hW'
  · rw [sq_take_no (Or.inr h)]
    exact hW'
  · rw [sq_take_yes hk w4]
    by_cases c : mb k < p
    · rw [if_pos c]
      exact hW'
    · rw [if_neg c]
      refine ⟨⟨w1, w2, w3, by omega, w5⟩, fun j hj => ?_, fun i j hij hj => ?_, x3, x4, fun j hj => ?_⟩
      · by_cases g : j < k
        · rw [sp_del1 g]; exact x1 j (by omega)
        · rw [sp_del2 (by omega)]; exact x1 _ (by omega)
      · by_cases g : i < k
        · rw [sp_del1 g]
          by_cases f : j < k
          · rw [sp_del1 f]; exact x2 i j hij (by omega)
          · rw [sp_del2 (by omega)]; exact x2 i _ (by omega) (by omega)
        · rw [sp_del2 (by omega), sp_del2 (by omega)]; exact x2 _ _ (by omega) (by omega)
      · by_cases g : j < k
        · rw [sp_del1 g]; exact x5 j (by omega)
        · rw [sp_del2 (by omega)]; exact x5 _ (by omega)
theorem zc_delL {I : Nat → Nat → Int32} {R : Nat → Nat → Option Nat} {F a nb k y : Nat} (h4 : I a 4 = nI nb) (hk : k < nb) (hn : nb ≤ 10) : ∀ (n i : Nat) (R2 : Nat → Nat → Option Nat), k ≤ i → i < nb → nb - i ≤ n → zz_frR a R R2 → (∀ j, j < k ∨ i ≤ j → R2 (a + 7) j = R (a + 7) j) → (∀ j, k ≤ j → j < i → R2 (a + 7) j = R (a + 7) (j + 1)) → ∃ R1, mi_X5_removeBottle_L34 F n I R2 a y (nI i) = some (mc_u I a 4 (nI (nb - 1)), R1, nI (nb - 1)) ∧ zz_frR a R R1 ∧ ∀ j, j < 10 → R1 (a + 7) j = if j < k then R (a + 7) j else if j = nb - 1 then some y else if j < nb then R (a + 7) (j + 1) else R (a + 7) j := by
  intro n
  induction n with
  | zero => intro i _ _ _ h; omega
  | succ n ih =>
    intro i R2 hki hin hlt f1 f2 f3
    show ∃ R1, mi_X5_removeBottle_B34 _ F I R2 _ _ _ = _ ∧ _
    unfold mi_X5_removeBottle_B34
    rw [h4, show nI nb - 1 = nI (nb - 1) from pk_sub (b := 1) (by omega)]
    by_cases c : i = nb - 1
    · subst c
      simp (disch := omega) only [zi_lit, zi_add, zi_mul, zi_le, zi_lt, zi_cl, Nat.not_lt_zero, zn_nle, zn_yle, zn_nlt, zn_ylt, if_false, if_true, or_false, false_or, mz_bn]
      unfold mi_X5_removeBottle_J74
      rw [h4, show nI nb - 1 = nI (nb - 1) from pk_sub (b := 1) (by omega)]
      have e : mc_u I a 4 (nI (nb - 1)) a 4 = nI (nb - 1) := by rw [mz_u, if_pos ⟨rfl, rfl⟩]
      simp (disch := omega) only [zi_lit, zi_add, zi_mul, zi_le, zi_lt, zi_cl, Nat.not_lt_zero, zn_nle, zn_yle, zn_nlt, zn_ylt, if_false, if_true, or_false, false_or, mz_bn, e]
      refine ⟨_, rfl, fun x hx => by rw [mz_ux _ hx]; exact f1 x hx, fun j hj => ?_⟩
      rw [mz_u]
      by_cases hj1 : j = nb - 1
      · rw [if_pos ⟨rfl, hj1⟩, if_neg (by omega), if_pos hj1]
      · rw [if_neg (fun q => hj1 q.2)]
        by_cases hj2 : j < k
        · rw [if_pos hj2]
          exact f2 j (Or.inl hj2)
        · rw [if_neg hj2, if_neg hj1]
          by_cases hj3 : j < nb
          · rw [if_pos hj3]
            exact f3 j (by omega) (by omega)
          · rw [if_neg hj3]
            exact f2 j (Or.inr (by omega))
    · simp (disch := omega) only [zi_lit, zi_add, zi_mul, zi_le, zi_lt, zi_cl, Nat.not_lt_zero, zn_nle, zn_yle, zn_nlt, zn_ylt, if_false, if_true, or_false, false_or, mz_bn]
      refine ih (i + 1) _ (by omega) (by omega) (by omega) (fun x hx => by rw [mz_ux _ hx]; exact f1 x hx) (fun j hj => ?_) (fun j j1 j2 => ?_)
      · rw [mz_u, if_neg (by omega)]
        exact f2 j (by omega)
      · rw [mz_u]
        by_cases hji : j = i
        · subst hji
          rw [if_pos ⟨rfl, rfl⟩]
          exact f2 _ (by omega)
        · rw [if_neg (fun q => hji q.2)]
          exact f3 j j1 (by omega)
theorem zc_take {I : Nat → Nat → Int32} {R : Nat → Nat → Option Nat} {a : Nat} {A : mz_A} {F : Nat} (hF : 20 ≤ F) (x : Int32) (hC : zz_CS I R a A) (hR : zz_RW R a) (hW : zz_WF A) : ∃ I1 R1, mi_X5_removeBottle F I R a x = some (I1, R1, (sq_take x A).2) ∧ zz_fr a I I1 ∧ zz_frR a R R1 ∧ zz_RW R1 a ∧ zz_CS I1 R1 a (sq_take x A).1 := by
  obtain ⟨p, sl, lo, nb, nm, mb, ms, sc, bt⟩ := A
  obtain ⟨⟨w1, w2, w3, w4, w5⟩, x1, x2, x3, x4, x5⟩ := hW
  have hC' := hC
  obtain ⟨⟨h0, h1, h2, h3, h4, h5, h6, h7, h8, h9, h10, h11, h12⟩, hw, hm, hb⟩ := hC
  have no : (x < 0 ∨ nI nb ≤ x) → ∃ I1 R1, mi_X5_removeBottle F I R a x = some (I1, R1, (sq_take x (p, sl, lo, nb, nm, mb, ms, sc, bt)).2) ∧ zz_fr a I I1 ∧ zz_frR a R R1 ∧ zz_RW R1 a ∧ zz_CS I1 R1 a (sq_take x (p, sl, lo, nb, nm, mb, ms, sc, bt)).1 := by
    intro h
    rw [sq_take_no h]
    unfold mi_X5_removeBottle
    rw [zc_bottleNo h3 h]
    exact ⟨I, R, rfl, zz_fr.rfl, fun _ _ => rfl, hR, hC'⟩
  rcases zn_ix2 x (n := nb) (by omega) with h | h | ⟨k, hk, rfl⟩
  · exact no (Or.inl h)
  · exact no (Or.inr h)
  · rw [sq_take_yes hk w4]
    unfold mi_X5_removeBottle
    rw [zc_bottleAt hR h3 w4 hk, mz_ob, mz_oms, (hb k hk).1, zc_inw h0 w1 (x1 k hk)]
    by_cases c : mb k < p
    · rw [if_pos c, if_neg (show ¬ p ≤ mb k by omega), if_neg (by decide)]
      exact ⟨I, R, rfl, zz_fr.rfl, fun _ _ => rfl, hR, hC'⟩
    · rw [if_neg c, if_pos (show p ≤ mb k by omega), if_pos rfl]
      obtain ⟨R1, e1, e2, e3⟩ := zc_delL (I := I) (R := R) (F := F) (y := zz_bp R a k) h3 hk w4 F k R (Nat.le_refl _) hk (by omega) (fun _ _ => rfl) (fun _ _ => rfl) (fun j j1 j2 => by omega)
      have e3' : ∀ j, j < 10 → R1 (a + 7) j = R (a + 7) (if j < k then j else if j = nb - 1 then k else if j < nb then j + 1 else j) := fun j hj => by
        rw [e3 j hj]
        split
        · rfl
        · split
          · exact (hR k (by omega)).1.symm
          · split <;> rfl
      have g2 : ∀ j, j < 10 → zz_bp R1 a j = zz_bp R a (if j < k then j else if j = nb - 1 then k else if j < nb then j + 1 else j) := fun j hj => by
        unfold zz_bp
        rw [e3' j hj]
      have g1 : zz_RW R1 a := by
        intro j hj
        rw [g2 j hj, e3' j hj]
        have hj2 : (if j < k then j else if j = nb - 1 then k else if j < nb then j + 1 else j) < 10 := by
          split
          · omega
          · split
            · omega
            · split <;> omega
        refine ⟨(hR _ hj2).1, (hR _ hj2).2.1, (hR _ hj2).2.2.1, fun i hi e => ?_⟩
        rw [g2 i hi] at e
        have hi2 : (if i < k then i else if i = nb - 1 then k else if i < nb then i + 1 else i) < 10 := by
          split
          · omega
          · split
            · omega
            · split <;> omega
        have := (hR _ hj2).2.2.2 _ hi2 e
        revert this
        split
        · split
          · omega
          · split
            · omega
            · split <;> omega
        · split
          · split
            · omega
            · split
              · omega
              · split <;> omega
          · split
            · split
              · omega
              · split
                · omega
                · split <;> omega
            · split
              · omega
              · split
                · omega
                · split <;> omega
      have o : ∀ x, x ≠ a → mc_u I a 4 (nI (nb - 1)) x = I x := fun x hx => mz_ux _ hx
      have o6 : ∀ j, j ≠ 4 → mc_u I a 4 (nI (nb - 1)) a j = I a j := fun j hj => by rw [mz_u, if_neg (fun q => hj q.2)]
      refine ⟨_, R1, e1, zu_fr (by omega) (by omega), e2, g1, ⟨⟨?_, ?_, ?_, ?_, ?_, ?_, ?_, ?_, ?_, ?_, ?_, ?_, ?_⟩, fun k hk => ?_, fun k hk => ?_, fun j hj => ?_⟩⟩
      · rw [o _ (by omega)]; exact h0
      · rw [o _ (by omega)]; exact h1
      · rw [o _ (by omega)]; exact h2
      · rw [mz_u, if_pos ⟨rfl, rfl⟩]
      · rw [o _ (by omega)]; exact h4
      · rw [o6 _ (by omega)]; exact h5
      · rw [o6 _ (by omega)]; exact h6
      · rw [o6 _ (by omega)]; exact h7
      · rw [o _ (by omega)]; exact h8
      · rw [o _ (by omega)]; exact h9
      · rw [o _ (by omega)]; exact h10
      · rw [o _ (by omega)]; exact h11
      · rw [o _ (by omega)]; exact h12
      · rw [o _ (by omega), o _ (by omega)]; exact hw k hk
      · rw [o _ (by omega)]; exact hm k hk
      · have hkp : ∀ j, j < nb → zz_bp R a j ≠ a := fun j hj => by have := (hR j (by omega)).2.1; omega
        rw [g2 j (by omega)]
        by_cases q : j < k
        · rw [sp_del1 q, sp_del1 q, if_pos q, o _ (hkp j (by omega))]
          exact hb j (by omega)
        · rw [sp_del2 (by omega), sp_del2 (by omega), if_neg q, if_neg (by omega), if_pos (by omega), o _ (hkp _ (by omega))]
          exact hb _ (by omega)

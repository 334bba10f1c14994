/-! the states that undo brings back -/
def zz_sec (A : mz_A) : Prop := ∃ s, s ≤ 99999 ∧ mz_s0 A = nI s
def zz_ok (A : mz_A) : Prop := zz_WF A ∧ zz_sec A
def zz_pt (R : Nat → Nat → Option Nat) (pt : Nat → Nat) : Prop := ∀ j, j < 4 → R 146 j = some (pt j) ∧ zz_RW R (pt j) ∧ (∃ q, q < 4 ∧ pt j = 72 + 18 * q) ∧ ∀ i, i < 4 → pt i = pt j → i = j
theorem zc_dropL {I : Nat → Nat → Int32} {R : Nat → Nat → Option Nat} {F : Nat} {pt : Nat → Nat} (h : ∀ j, j < 4 → R 146 j = some (pt j)) : ∀ (n i : Nat) (R2 : Nat → Nat → Option Nat), i ≤ 3 → 3 - i < n → (∀ x, x ≠ 146 → R2 x = R x) → (∀ j, i ≤ j → j < 4 → R2 146 j = some (pt j)) → (∀ j, j < i → R2 146 j = some (pt (j + 1))) → ∃ R1, mi_X3_dropOldest_L9 F n I R2 (some (pt 0)) (nI i) = some (mc_u I 145 1 (nI 3), R1) ∧ (∀ x, x ≠ 146 → R1 x = R x) ∧ ∀ j, j < 4 → R1 146 j = some (if j < 3 then pt (j + 1) else pt 0) := by
  intro n
  induction n with
  | zero => intro i _ _ h; omega
  | succ n ih =>
    intro i R2 hi hin f0 f1 f2
    show ∃ R1, mi_X3_dropOldest_B9 _ F I R2 _ _ = _ ∧ _
    unfold mi_X3_dropOldest_B9
    by_cases c : i = 3
    · subst c
      simp (disch := omega) only [zi_lit, zi_add, zi_mul, zi_le, zi_lt, zi_cl, Nat.not_lt_zero, zn_nle, zn_yle, zn_nlt, zn_ylt, if_false, if_true, or_false, false_or, mz_bn]
      refine ⟨_, rfl, fun x hx => by rw [mz_ux _ hx]; exact f0 x hx, fun j hj => ?_⟩
      rw [mz_u]
      by_cases e : j = 3
      · subst e
        rw [if_pos ⟨rfl, rfl⟩, if_neg (by omega)]
      · rw [if_neg (fun q => e q.2), if_pos (by omega)]
        exact f2 j (by omega)
    · have e1 := f1 (i + 1) (by omega) (by omega)
      simp (disch := omega) only [zi_lit, zi_add, zi_mul, zi_le, zi_lt, zi_cl, Nat.not_lt_zero, zn_nle, zn_yle, zn_nlt, zn_ylt, if_false, if_true, or_false, false_or, mz_bn, e1]
      refine ih (i + 1) _ (by omega) (by omega) (fun x hx => by rw [mz_ux _ hx]; exact f0 x hx) (fun j j1 j2 => ?_) (fun j hj => ?_)
      · rw [mz_u, if_neg (by omega)]
        exact f1 j (by omega) j2
      · rw [mz_u]
        by_cases e : j = i
        · subst e
          rw [if_pos ⟨rfl, rfl⟩]
        · rw [if_neg (fun q => e q.2)]
          exact f2 j (by omega)
theorem zz_pt.sep {R : Nat → Nat → Option Nat} {pt : Nat → Nat} (h : zz_pt R pt) {i j : Nat} (hi : i < 4) (hj : j < 4) (hij : i ≠ j) : pt i + 18 ≤ pt j ∨ pt j + 18 ≤ pt i := by
  obtain ⟨-, -, ⟨q, q1, q2⟩, -⟩ := h i hi
  obtain ⟨-, -, ⟨q', q1', q2'⟩, hne⟩ := h j hj
  have : q ≠ q' := fun e => hij (hne i hi (by rw [q2, q2', e]))
  omega
theorem zz_pt.rng {R : Nat → Nat → Option Nat} {pt : Nat → Nat} (h : zz_pt R pt) {i : Nat} (hi : i < 4) : 72 ≤ pt i ∧ pt i + 18 ≤ 144 := by
  obtain ⟨-, -, ⟨q, q1, q2⟩, -⟩ := h i hi
  omega

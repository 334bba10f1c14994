/-! at the start the two are in the relation -/
theorem zz_RW0 {q : Nat} (hq : q < 8) : zz_RW mz_R0 (18 * q) := by
  have h : ∀ k, k < 10 → mz_R0 (18 * q + 7) k = some (18 * q + 8 + k) := fun k hk => by
    unfold mz_R0
    rw [if_pos (by omega), if_pos ⟨by omega, hk⟩]
  have hb : ∀ k, k < 10 → zz_bp mz_R0 (18 * q) k = 18 * q + 8 + k := fun k hk => by
    unfold zz_bp
    rw [h k hk]
    rfl
  intro k hk
  rw [hb k hk]
  exact ⟨h k hk, by omega, by omega, fun j hj e => by rw [hb j hj] at e; omega⟩

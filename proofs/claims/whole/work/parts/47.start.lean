/-! at the start the two are in the relation -/
theorem zz_RW0 {q : Nat} (hq : q < 8) : zz_RW mz_R0 (18 * q) := by
  have h : ∀ k, k < 10 → mz_R0 (18 * q + 7) k = some (18 * q + 8 + k) := fun k hk => by
    unfold mz_R0
    rw [if_pos (by omega), if_pos ⟨by omega, hk⟩]
  have hb : ∀ k, k < 10 → zz_bp mz_R0 (18 * q) k = 18 * q + 8 + k := fun k hk => by
    unfold zz_bp
    rw [h k hk]
    rfl
  intro k hk
  rw [hb k hk]
  exact ⟨h k hk, by omega, by omega, fun j hj e => by rw [hb j hj] at e; omega⟩
theorem mz_rel0 : zz_Rel mz_I0 mz_R0 mz_J0 := by
  refine ⟨⟨zz_RW0 (q := 0) (by omega), zz_RW0 (q := 1) (by omega), zz_RW0 (q := 2) (by omega), zz_RW0 (q := 3) (by omega)⟩, ⟨(0, 0, 0, 0, 0, fun _ => 0, fun _ => 0, mx_m0, fun _ _ => 0), ?_, ?_, ?_, ?_⟩, ⟨0, fun _ => (0, 0, 0, 0, 0, fun _ => 0, fun _ => 0, mx_m0, fun _ _ => 0), fun j => 72 + 18 * j, Nat.zero_le _, ?_, ?_, fun j hj => ?_, fun j hj => by omega⟩, Or.inl ⟨?_, ?_⟩, ⟨0, Nat.zero_le _, ?_, ?_, fun k hk => by omega⟩, Or.inl ⟨?_, ?_, ?_⟩⟩
  · refine ⟨?_, ?_, fun k hk => by omega, fun k hk => by omega⟩
    · decide +kernel
    · decide +kernel
  · refine ⟨?_, fun k k1 k2 => ?_, fun k hk => by omega, fun k hk => by omega⟩
    · decide +kernel
    · rw [Nat.zero_add]
      rfl
  · exact ⟨⟨by omega, by omega, by omega, by omega, by omega⟩, fun k hk => by omega, fun k j h1 h2 => by omega, fun k hk => by omega, fun k j h1 h2 => by omega, fun k hk => by omega⟩
  · exact ⟨0, by omega, by decide +kernel⟩
  · decide +kernel
  · decide +kernel
  · refine ⟨?_, ?_, ⟨j, hj, rfl⟩, fun i hi e => by dsimp only at e; omega⟩
    · unfold mz_R0
      rw [if_neg (by omega), if_pos ⟨rfl, hj⟩]
    · dsimp only
      rw [show 72 + 18 * j = 18 * (j + 4) by omega]
      exact zz_RW0 (by omega)
  · decide +kernel
  · decide +kernel
  · decide +kernel
  · decide +kernel
  · decide +kernel
  · decide +kernel
  · decide +kernel

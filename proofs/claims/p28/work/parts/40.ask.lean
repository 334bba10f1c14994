/-! reason, shutIn, quietIn -/
theorem sp_ur_no {u : Nat} (h : u < 1100) : ¬ sp_ur 0 (some u) = -1005 := by
  show ¬ nI (0 + u) = -1005
  exact mz_enc_no (by omega)

theorem mz_all : ∃ (F : Nat) (Rl : (Nat → Nat → Int32) → (Nat → Nat → Option Nat) → (Nat → Nat → Int32) → Prop), mz_ops F Rl ∧ Rl mz_I0 mz_R0 mz_J0 := ⟨1100, zz_Rel, mz_done (Nat.le_refl _), mz_rel0⟩

/-! one second in the reference -/
def mz_enc : Option Nat → Int32
  | none => -1005
  | some k => nI k
theorem mz_enc_no {k : Nat} (h : k ≤ 99999) : ¬ nI k = -1005 := fun q => by
  have := congrArg Int32.toInt q
  rw [nI_toInt (by omega)] at this
  have h9 : (-1005 : Int32).toInt = -1005 := by decide
  rw [h9] at this
  omega

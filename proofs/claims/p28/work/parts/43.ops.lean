/-! the other operations, but perform -/
theorem zn_nar {c : Nat} (h : c < 65536) : vp_nar .char (nI c) = nI c := by
  show ((nI c).toUInt32 % 65536).toInt32 = nI c
  have e : (nI c).toUInt32 = UInt32.ofNat c := rfl
  have e2 : UInt32.ofNat c % 65536 = UInt32.ofNat c := by
    apply UInt32.toNat_inj.mp
    rw [UInt32.toNat_mod, UInt32.toNat_ofNat']
    have : (65536 : UInt32).toNat = 65536 := rfl
    rw [this]
    omega
  rw [e, e2]
  rfl
theorem zn_chr (z : Int32) : ∃ c, c < 65536 ∧ (z.toUInt32 % 65536).toInt32 = nI c := by
  refine ⟨(z.toUInt32 % 65536).toNat, ?_, ?_⟩
  · rw [UInt32.toNat_mod]
    have : (65536 : UInt32).toNat = 65536 := rfl
    rw [this]
    omega
  · show _ = (UInt32.ofNat (z.toUInt32 % 65536).toNat).toInt32
    rw [UInt32.ofNat_toNat]
theorem zc_nb {I : Nat → Nat → Int32} {R : Nat → Nat → Option Nat} {a : Nat} {A : mz_A} (hC : zz_CS I R a A) : I a 4 = nI (mz_nb A) := by
  obtain ⟨p, sl, lo, nb, nm, mb, ms, sc, bt⟩ := A
  exact hC.1.2.2.2.1

/-! what is asked -/
/-- how far the pair differs from the metre -/
def sp_df (t : Nat → Int32) : Int32 := mi_X9_size (10 * (t 7 - t 6) - t 9)
theorem zc_diff {I : Nat → Nat → Int32} {x g : Nat} {t : Nat → Int32} (h : zz_cb (I x) g t) (h1 : t 1 = 1) : mi_X0_difference I x = sp_df t := by
  obtain ⟨g5, g6, g7, g8, g9, g10⟩ := h.2.2.2.2.2 h1
  unfold mi_X0_difference mi_X0_depthByPair sp_df
  rw [g9, g8, g6, zn_abs, Int32.mul_comm]

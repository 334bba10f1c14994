/-! one write into a block of the class, and what the state then says (by wip/whole/gen/gen_set.py) -/
theorem zu_s0 {I : Nat → Nat → Int32} {R : Nat → Nat → Option Nat} {a p sl lo nb nm : Nat} {mb ms : Nat → Nat} {sc : Nat → Int32} {bt : Nat → Nat → Int32} (hC : zz_CS I R a (p, sl, lo, nb, nm, mb, ms, sc, bt)) (hR : zz_RW R a) (hn : nb ≤ 10) (v : Int32) : zz_CS (mc_u I a 5 v) R a (p, sl, lo, nb, nm, mb, ms, va_up sc 0 v, bt) := by
  obtain ⟨⟨h0, h1, h2, h3, h4, h5, h6, h7, h8, h9, h10, h11, h12⟩, hw, hm, hb⟩ := hC
  refine ⟨⟨?_, ?_, ?_, ?_, ?_, ?_, ?_, ?_, ?_, ?_, ?_, ?_, ?_⟩, fun k hk => ?_, fun k hk => ?_, fun k hk => ?_⟩
  · rw [mz_u, if_neg (by omega)]
    exact h0
  · rw [mz_u, if_neg (by omega)]
    exact h1
  · rw [mz_u, if_neg (by omega)]
    exact h2
  · rw [mz_u, if_neg (by omega)]
    exact h3
  · rw [mz_u, if_neg (by omega)]
    exact h4
  · rw [mz_u, if_pos ⟨rfl, rfl⟩, va_up_self]
  · rw [mz_u, if_neg (by omega), va_up_ne _ _ (by decide)]
    exact h6
  · rw [mz_u, if_neg (by omega), va_up_ne _ _ (by decide)]
    exact h7
  · rw [mz_u, if_neg (by omega), va_up_ne _ _ (by decide)]
    exact h8
  · rw [mz_u, if_neg (by omega), va_up_ne _ _ (by decide)]
    exact h9
  · rw [mz_u, if_neg (by omega), va_up_ne _ _ (by decide)]
    exact h10
  · rw [mz_u, if_neg (by omega), va_up_ne _ _ (by decide)]
    exact h11
  · rw [mz_u, if_neg (by omega), va_up_ne _ _ (by decide)]
    exact h12
  · rw [mz_u, if_neg (by omega), mz_u, if_neg (by omega), va_up_ne _ _ (by omega), va_up_ne _ _ (by omega)]
    exact hw k hk
  · rw [mz_u, if_neg (by omega)]
    exact hm k hk
  · have := (hR k (by omega)).2.1
    rw [mz_ux _ (by omega)]
    exact hb k hk
theorem zu_s6 {I : Nat → Nat → Int32} {R : Nat → Nat → Option Nat} {a p sl lo nb nm : Nat} {mb ms : Nat → Nat} {sc : Nat → Int32} {bt : Nat → Nat → Int32} (hC : zz_CS I R a (p, sl, lo, nb, nm, mb, ms, sc, bt)) (hR : zz_RW R a) (hn : nb ≤ 10) (v : Int32) : zz_CS (mc_u I (a + 5) 2 v) R a (p, sl, lo, nb, nm, mb, ms, va_up sc 6 v, bt) := by
  obtain ⟨⟨h0, h1, h2, h3, h4, h5, h6, h7, h8, h9, h10, h11, h12⟩, hw, hm, hb⟩ := hC
  refine ⟨⟨?_, ?_, ?_, ?_, ?_, ?_, ?_, ?_, ?_, ?_, ?_, ?_, ?_⟩, fun k hk => ?_, fun k hk => ?_, fun k hk => ?_⟩
  · rw [mz_u, if_neg (by omega)]
    exact h0
  · rw [mz_u, if_neg (by omega)]
    exact h1
  · rw [mz_u, if_neg (by omega)]
    exact h2
  · rw [mz_u, if_neg (by omega)]
    exact h3
  · rw [mz_u, if_neg (by omega)]
    exact h4
  · rw [mz_u, if_neg (by omega), va_up_ne _ _ (by decide)]
    exact h5
  · rw [mz_u, if_neg (by omega), va_up_ne _ _ (by decide)]
    exact h6
  · rw [mz_u, if_neg (by omega), va_up_ne _ _ (by decide)]
    exact h7
  · rw [mz_u, if_pos ⟨rfl, rfl⟩, va_up_self]
  · rw [mz_u, if_neg (by omega), va_up_ne _ _ (by decide)]
    exact h9
  · rw [mz_u, if_neg (by omega), va_up_ne _ _ (by decide)]
    exact h10
  · rw [mz_u, if_neg (by omega), va_up_ne _ _ (by decide)]
    exact h11
  · rw [mz_u, if_neg (by omega), va_up_ne _ _ (by decide)]
    exact h12
  · rw [mz_u, if_neg (by omega), mz_u, if_neg (by omega), va_up_ne _ _ (by omega), va_up_ne _ _ (by omega)]
    exact hw k hk
  · rw [mz_u, if_neg (by omega)]
    exact hm k hk
  · have := (hR k (by omega)).2.1
    rw [mz_ux _ (by omega)]
    exact hb k hk
theorem zu_s7 {I : Nat → Nat → Int32} {R : Nat → Nat → Option Nat} {a p sl lo nb nm : Nat} {mb ms : Nat → Nat} {sc : Nat → Int32} {bt : Nat → Nat → Int32} (hC : zz_CS I R a (p, sl, lo, nb, nm, mb, ms, sc, bt)) (hR : zz_RW R a) (hn : nb ≤ 10) (v : Int32) : zz_CS (mc_u I (a + 5) 3 v) R a (p, sl, lo, nb, nm, mb, ms, va_up sc 7 v, bt) := by
  obtain ⟨⟨h0, h1, h2, h3, h4, h5, h6, h7, h8, h9, h10, h11, h12⟩, hw, hm, hb⟩ := hC
  refine ⟨⟨?_, ?_, ?_, ?_, ?_, ?_, ?_, ?_, ?_, ?_, ?_, ?_, ?_⟩, fun k hk => ?_, fun k hk => ?_, fun k hk => ?_⟩
  · rw [mz_u, if_neg (by omega)]
    exact h0
  · rw [mz_u, if_neg (by omega)]
    exact h1
  · rw [mz_u, if_neg (by omega)]
    exact h2
  · rw [mz_u, if_neg (by omega)]
    exact h3
  · rw [mz_u, if_neg (by omega)]
    exact h4
  · rw [mz_u, if_neg (by omega), va_up_ne _ _ (by decide)]
    exact h5
  · rw [mz_u, if_neg (by omega), va_up_ne _ _ (by decide)]
    exact h6
  · rw [mz_u, if_neg (by omega), va_up_ne _ _ (by decide)]
    exact h7
  · rw [mz_u, if_neg (by omega), va_up_ne _ _ (by decide)]
    exact h8
  · rw [mz_u, if_pos ⟨rfl, rfl⟩, va_up_self]
  · rw [mz_u, if_neg (by omega), va_up_ne _ _ (by decide)]
    exact h10
  · rw [mz_u, if_neg (by omega), va_up_ne _ _ (by decide)]
    exact h11
  · rw [mz_u, if_neg (by omega), va_up_ne _ _ (by decide)]
    exact h12
  · rw [mz_u, if_neg (by omega), mz_u, if_neg (by omega), va_up_ne _ _ (by omega), va_up_ne _ _ (by omega)]
    exact hw k hk
  · rw [mz_u, if_neg (by omega)]
    exact hm k hk
  · have := (hR k (by omega)).2.1
    rw [mz_ux _ (by omega)]
    exact hb k hk
theorem zu_s8 {I : Nat → Nat → Int32} {R : Nat → Nat → Option Nat} {a p sl lo nb nm : Nat} {mb ms : Nat → Nat} {sc : Nat → Int32} {bt : Nat → Nat → Int32} (hC : zz_CS I R a (p, sl, lo, nb, nm, mb, ms, sc, bt)) (hR : zz_RW R a) (hn : nb ≤ 10) (v : Int32) : zz_CS (mc_u I (a + 5) 4 v) R a (p, sl, lo, nb, nm, mb, ms, va_up sc 8 v, bt) := by
  obtain ⟨⟨h0, h1, h2, h3, h4, h5, h6, h7, h8, h9, h10, h11, h12⟩, hw, hm, hb⟩ := hC
  refine ⟨⟨?_, ?_, ?_, ?_, ?_, ?_, ?_, ?_, ?_, ?_, ?_, ?_, ?_⟩, fun k hk => ?_, fun k hk => ?_, fun k hk => ?_⟩
  · rw [mz_u, if_neg (by omega)]
    exact h0
  · rw [mz_u, if_neg (by omega)]
    exact h1
  · rw [mz_u, if_neg (by omega)]
    exact h2
  · rw [mz_u, if_neg (by omega)]
    exact h3
  · rw [mz_u, if_neg (by omega)]
    exact h4
  · rw [mz_u, if_neg (by omega), va_up_ne _ _ (by decide)]
    exact h5
  · rw [mz_u, if_neg (by omega), va_up_ne _ _ (by decide)]
    exact h6
  · rw [mz_u, if_neg (by omega), va_up_ne _ _ (by decide)]
    exact h7
  · rw [mz_u, if_neg (by omega), va_up_ne _ _ (by decide)]
    exact h8
  · rw [mz_u, if_neg (by omega), va_up_ne _ _ (by decide)]
    exact h9
  · rw [mz_u, if_pos ⟨rfl, rfl⟩, va_up_self]
  · rw [mz_u, if_neg (by omega), va_up_ne _ _ (by decide)]
    exact h11
  · rw [mz_u, if_neg (by omega), va_up_ne _ _ (by decide)]
    exact h12
  · rw [mz_u, if_neg (by omega), mz_u, if_neg (by omega), va_up_ne _ _ (by omega), va_up_ne _ _ (by omega)]
    exact hw k hk
  · rw [mz_u, if_neg (by omega)]
    exact hm k hk
  · have := (hR k (by omega)).2.1
    rw [mz_ux _ (by omega)]
    exact hb k hk
theorem zu_s9 {I : Nat → Nat → Int32} {R : Nat → Nat → Option Nat} {a p sl lo nb nm : Nat} {mb ms : Nat → Nat} {sc : Nat → Int32} {bt : Nat → Nat → Int32} (hC : zz_CS I R a (p, sl, lo, nb, nm, mb, ms, sc, bt)) (hR : zz_RW R a) (hn : nb ≤ 10) (v : Int32) : zz_CS (mc_u I (a + 5) 5 v) R a (p, sl, lo, nb, nm, mb, ms, va_up sc 9 v, bt) := by
  obtain ⟨⟨h0, h1, h2, h3, h4, h5, h6, h7, h8, h9, h10, h11, h12⟩, hw, hm, hb⟩ := hC
  refine ⟨⟨?_, ?_, ?_, ?_, ?_, ?_, ?_, ?_, ?_, ?_, ?_, ?_, ?_⟩, fun k hk => ?_, fun k hk => ?_, fun k hk => ?_⟩
  · rw [mz_u, if_neg (by omega)]
    exact h0
  · rw [mz_u, if_neg (by omega)]
    exact h1
  · rw [mz_u, if_neg (by omega)]
    exact h2
  · rw [mz_u, if_neg (by omega)]
    exact h3
  · rw [mz_u, if_neg (by omega)]
    exact h4
  · rw [mz_u, if_neg (by omega), va_up_ne _ _ (by decide)]
    exact h5
  · rw [mz_u, if_neg (by omega), va_up_ne _ _ (by decide)]
    exact h6
  · rw [mz_u, if_neg (by omega), va_up_ne _ _ (by decide)]
    exact h7
  · rw [mz_u, if_neg (by omega), va_up_ne _ _ (by decide)]
    exact h8
  · rw [mz_u, if_neg (by omega), va_up_ne _ _ (by decide)]
    exact h9
  · rw [mz_u, if_neg (by omega), va_up_ne _ _ (by decide)]
    exact h10
  · rw [mz_u, if_pos ⟨rfl, rfl⟩, va_up_self]
  · rw [mz_u, if_neg (by omega), va_up_ne _ _ (by decide)]
    exact h12
  · rw [mz_u, if_neg (by omega), mz_u, if_neg (by omega), va_up_ne _ _ (by omega), va_up_ne _ _ (by omega)]
    exact hw k hk
  · rw [mz_u, if_neg (by omega)]
    exact hm k hk
  · have := (hR k (by omega)).2.1
    rw [mz_ux _ (by omega)]
    exact hb k hk
theorem zu_s10 {I : Nat → Nat → Int32} {R : Nat → Nat → Option Nat} {a p sl lo nb nm : Nat} {mb ms : Nat → Nat} {sc : Nat → Int32} {bt : Nat → Nat → Int32} (hC : zz_CS I R a (p, sl, lo, nb, nm, mb, ms, sc, bt)) (hR : zz_RW R a) (hn : nb ≤ 10) (v : Int32) : zz_CS (mc_u I (a + 5) 6 v) R a (p, sl, lo, nb, nm, mb, ms, va_up sc 10 v, bt) := by
  obtain ⟨⟨h0, h1, h2, h3, h4, h5, h6, h7, h8, h9, h10, h11, h12⟩, hw, hm, hb⟩ := hC
  refine ⟨⟨?_, ?_, ?_, ?_, ?_, ?_, ?_, ?_, ?_, ?_, ?_, ?_, ?_⟩, fun k hk => ?_, fun k hk => ?_, fun k hk => ?_⟩
  · rw [mz_u, if_neg (by omega)]
    exact h0
  · rw [mz_u, if_neg (by omega)]
    exact h1
  · rw [mz_u, if_neg (by omega)]
    exact h2
  · rw [mz_u, if_neg (by omega)]
    exact h3
  · rw [mz_u, if_neg (by omega)]
    exact h4
  · rw [mz_u, if_neg (by omega), va_up_ne _ _ (by decide)]
    exact h5
  · rw [mz_u, if_neg (by omega), va_up_ne _ _ (by decide)]
    exact h6
  · rw [mz_u, if_neg (by omega), va_up_ne _ _ (by decide)]
    exact h7
  · rw [mz_u, if_neg (by omega), va_up_ne _ _ (by decide)]
    exact h8
  · rw [mz_u, if_neg (by omega), va_up_ne _ _ (by decide)]
    exact h9
  · rw [mz_u, if_neg (by omega), va_up_ne _ _ (by decide)]
    exact h10
  · rw [mz_u, if_neg (by omega), va_up_ne _ _ (by decide)]
    exact h11
  · rw [mz_u, if_pos ⟨rfl, rfl⟩, va_up_self]
  · rw [mz_u, if_neg (by omega), mz_u, if_neg (by omega), va_up_ne _ _ (by omega), va_up_ne _ _ (by omega)]
    exact hw k hk
  · rw [mz_u, if_neg (by omega)]
    exact hm k hk
  · have := (hR k (by omega)).2.1
    rw [mz_ux _ (by omega)]
    exact hb k hk
theorem zu_s11 {I : Nat → Nat → Int32} {R : Nat → Nat → Option Nat} {a p sl lo nb nm : Nat} {mb ms : Nat → Nat} {sc : Nat → Int32} {bt : Nat → Nat → Int32} (hC : zz_CS I R a (p, sl, lo, nb, nm, mb, ms, sc, bt)) (hR : zz_RW R a) (hn : nb ≤ 10) (v : Int32) : zz_CS (mc_u I a 6 v) R a (p, sl, lo, nb, nm, mb, ms, va_up sc 11 v, bt) := by
  obtain ⟨⟨h0, h1, h2, h3, h4, h5, h6, h7, h8, h9, h10, h11, h12⟩, hw, hm, hb⟩ := hC
  refine ⟨⟨?_, ?_, ?_, ?_, ?_, ?_, ?_, ?_, ?_, ?_, ?_, ?_, ?_⟩, fun k hk => ?_, fun k hk => ?_, fun k hk => ?_⟩
  · rw [mz_u, if_neg (by omega)]
    exact h0
  · rw [mz_u, if_neg (by omega)]
    exact h1
  · rw [mz_u, if_neg (by omega)]
    exact h2
  · rw [mz_u, if_neg (by omega)]
    exact h3
  · rw [mz_u, if_neg (by omega)]
    exact h4
  · rw [mz_u, if_neg (by omega), va_up_ne _ _ (by decide)]
    exact h5
  · rw [mz_u, if_pos ⟨rfl, rfl⟩, va_up_self]
  · rw [mz_u, if_neg (by omega), va_up_ne _ _ (by decide)]
    exact h7
  · rw [mz_u, if_neg (by omega), va_up_ne _ _ (by decide)]
    exact h8
  · rw [mz_u, if_neg (by omega), va_up_ne _ _ (by decide)]
    exact h9
  · rw [mz_u, if_neg (by omega), va_up_ne _ _ (by decide)]
    exact h10
  · rw [mz_u, if_neg (by omega), va_up_ne _ _ (by decide)]
    exact h11
  · rw [mz_u, if_neg (by omega), va_up_ne _ _ (by decide)]
    exact h12
  · rw [mz_u, if_neg (by omega), mz_u, if_neg (by omega), va_up_ne _ _ (by omega), va_up_ne _ _ (by omega)]
    exact hw k hk
  · rw [mz_u, if_neg (by omega)]
    exact hm k hk
  · have := (hR k (by omega)).2.1
    rw [mz_ux _ (by omega)]
    exact hb k hk
theorem zu_s12 {I : Nat → Nat → Int32} {R : Nat → Nat → Option Nat} {a p sl lo nb nm : Nat} {mb ms : Nat → Nat} {sc : Nat → Int32} {bt : Nat → Nat → Int32} (hC : zz_CS I R a (p, sl, lo, nb, nm, mb, ms, sc, bt)) (hR : zz_RW R a) (hn : nb ≤ 10) (v : Int32) : zz_CS (mc_u I a 7 v) R a (p, sl, lo, nb, nm, mb, ms, va_up sc 12 v, bt) := by
  obtain ⟨⟨h0, h1, h2, h3, h4, h5, h6, h7, h8, h9, h10, h11, h12⟩, hw, hm, hb⟩ := hC
  refine ⟨⟨?_, ?_, ?_, ?_, ?_, ?_, ?_, ?_, ?_, ?_, ?_, ?_, ?_⟩, fun k hk => ?_, fun k hk => ?_, fun k hk => ?_⟩
  · rw [mz_u, if_neg (by omega)]
    exact h0
  · rw [mz_u, if_neg (by omega)]
    exact h1
  · rw [mz_u, if_neg (by omega)]
    exact h2
  · rw [mz_u, if_neg (by omega)]
    exact h3
  · rw [mz_u, if_neg (by omega)]
    exact h4
  · rw [mz_u, if_neg (by omega), va_up_ne _ _ (by decide)]
    exact h5
  · rw [mz_u, if_neg (by omega), va_up_ne _ _ (by decide)]
    exact h6
  · rw [mz_u, if_pos ⟨rfl, rfl⟩, va_up_self]
  · rw [mz_u, if_neg (by omega), va_up_ne _ _ (by decide)]
    exact h8
  · rw [mz_u, if_neg (by omega), va_up_ne _ _ (by decide)]
    exact h9
  · rw [mz_u, if_neg (by omega), va_up_ne _ _ (by decide)]
    exact h10
  · rw [mz_u, if_neg (by omega), va_up_ne _ _ (by decide)]
    exact h11
  · rw [mz_u, if_neg (by omega), va_up_ne _ _ (by decide)]
    exact h12
  · rw [mz_u, if_neg (by omega), mz_u, if_neg (by omega), va_up_ne _ _ (by omega), va_up_ne _ _ (by omega)]
    exact hw k hk
  · rw [mz_u, if_neg (by omega)]
    exact hm k hk
  · have := (hR k (by omega)).2.1
    rw [mz_ux _ (by omega)]
    exact hb k hk
theorem zu_p {I : Nat → Nat → Int32} {R : Nat → Nat → Option Nat} {a p sl lo nb nm : Nat} {mb ms : Nat → Nat} {sc : Nat → Int32} {bt : Nat → Nat → Int32} (hC : zz_CS I R a (p, sl, lo, nb, nm, mb, ms, sc, bt)) (hR : zz_RW R a) (hn : nb ≤ 10) (v : Nat) : zz_CS (mc_u I (a + 1) 0 (nI v)) R a (v, sl, lo, nb, nm, mb, ms, sc, bt) := by
  obtain ⟨⟨h0, h1, h2, h3, h4, h5, h6, h7, h8, h9, h10, h11, h12⟩, hw, hm, hb⟩ := hC
  refine ⟨⟨?_, ?_, ?_, ?_, ?_, ?_, ?_, ?_, ?_, ?_, ?_, ?_, ?_⟩, fun k hk => ?_, fun k hk => ?_, fun k hk => ?_⟩
  · rw [mz_u, if_pos ⟨rfl, rfl⟩]
  · rw [mz_u, if_neg (by omega)]
    exact h1
  · rw [mz_u, if_neg (by omega)]
    exact h2
  · rw [mz_u, if_neg (by omega)]
    exact h3
  · rw [mz_u, if_neg (by omega)]
    exact h4
  · rw [mz_u, if_neg (by omega)]
    exact h5
  · rw [mz_u, if_neg (by omega)]
    exact h6
  · rw [mz_u, if_neg (by omega)]
    exact h7
  · rw [mz_u, if_neg (by omega)]
    exact h8
  · rw [mz_u, if_neg (by omega)]
    exact h9
  · rw [mz_u, if_neg (by omega)]
    exact h10
  · rw [mz_u, if_neg (by omega)]
    exact h11
  · rw [mz_u, if_neg (by omega)]
    exact h12
  · rw [mz_u, if_neg (by omega), mz_u, if_neg (by omega)]
    exact hw k hk
  · rw [mz_u, if_neg (by omega)]
    exact hm k hk
  · have := (hR k (by omega)).2.1
    rw [mz_ux _ (by omega)]
    exact hb k hk
theorem zu_sl {I : Nat → Nat → Int32} {R : Nat → Nat → Option Nat} {a p sl lo nb nm : Nat} {mb ms : Nat → Nat} {sc : Nat → Int32} {bt : Nat → Nat → Int32} (hC : zz_CS I R a (p, sl, lo, nb, nm, mb, ms, sc, bt)) (hR : zz_RW R a) (hn : nb ≤ 10) (v : Nat) : zz_CS (mc_u I (a + 1) 1 (nI v)) R a (p, v, lo, nb, nm, mb, ms, sc, bt) := by
  obtain ⟨⟨h0, h1, h2, h3, h4, h5, h6, h7, h8, h9, h10, h11, h12⟩, hw, hm, hb⟩ := hC
  refine ⟨⟨?_, ?_, ?_, ?_, ?_, ?_, ?_, ?_, ?_, ?_, ?_, ?_, ?_⟩, fun k hk => ?_, fun k hk => ?_, fun k hk => ?_⟩
  · rw [mz_u, if_neg (by omega)]
    exact h0
  · rw [mz_u, if_pos ⟨rfl, rfl⟩]
  · rw [mz_u, if_neg (by omega)]
    exact h2
  · rw [mz_u, if_neg (by omega)]
    exact h3
  · rw [mz_u, if_neg (by omega)]
    exact h4
  · rw [mz_u, if_neg (by omega)]
    exact h5
  · rw [mz_u, if_neg (by omega)]
    exact h6
  · rw [mz_u, if_neg (by omega)]
    exact h7
  · rw [mz_u, if_neg (by omega)]
    exact h8
  · rw [mz_u, if_neg (by omega)]
    exact h9
  · rw [mz_u, if_neg (by omega)]
    exact h10
  · rw [mz_u, if_neg (by omega)]
    exact h11
  · rw [mz_u, if_neg (by omega)]
    exact h12
  · rw [mz_u, if_neg (by omega), mz_u, if_neg (by omega)]
    exact hw k hk
  · rw [mz_u, if_neg (by omega)]
    exact hm k hk
  · have := (hR k (by omega)).2.1
    rw [mz_ux _ (by omega)]
    exact hb k hk
theorem zu_lo {I : Nat → Nat → Int32} {R : Nat → Nat → Option Nat} {a p sl lo nb nm : Nat} {mb ms : Nat → Nat} {sc : Nat → Int32} {bt : Nat → Nat → Int32} (hC : zz_CS I R a (p, sl, lo, nb, nm, mb, ms, sc, bt)) (hR : zz_RW R a) (hn : nb ≤ 10) (v : Nat) : zz_CS (mc_u I (a + 1) 2 (nI v)) R a (p, sl, v, nb, nm, mb, ms, sc, bt) := by
  obtain ⟨⟨h0, h1, h2, h3, h4, h5, h6, h7, h8, h9, h10, h11, h12⟩, hw, hm, hb⟩ := hC
  refine ⟨⟨?_, ?_, ?_, ?_, ?_, ?_, ?_, ?_, ?_, ?_, ?_, ?_, ?_⟩, fun k hk => ?_, fun k hk => ?_, fun k hk => ?_⟩
  · rw [mz_u, if_neg (by omega)]
    exact h0
  · rw [mz_u, if_neg (by omega)]
    exact h1
  · rw [mz_u, if_pos ⟨rfl, rfl⟩]
  · rw [mz_u, if_neg (by omega)]
    exact h3
  · rw [mz_u, if_neg (by omega)]
    exact h4
  · rw [mz_u, if_neg (by omega)]
    exact h5
  · rw [mz_u, if_neg (by omega)]
    exact h6
  · rw [mz_u, if_neg (by omega)]
    exact h7
  · rw [mz_u, if_neg (by omega)]
    exact h8
  · rw [mz_u, if_neg (by omega)]
    exact h9
  · rw [mz_u, if_neg (by omega)]
    exact h10
  · rw [mz_u, if_neg (by omega)]
    exact h11
  · rw [mz_u, if_neg (by omega)]
    exact h12
  · rw [mz_u, if_neg (by omega), mz_u, if_neg (by omega)]
    exact hw k hk
  · rw [mz_u, if_neg (by omega)]
    exact hm k hk
  · have := (hR k (by omega)).2.1
    rw [mz_ux _ (by omega)]
    exact hb k hk
theorem zu_nm {I : Nat → Nat → Int32} {R : Nat → Nat → Option Nat} {a p sl lo nb nm : Nat} {mb ms : Nat → Nat} {sc : Nat → Int32} {bt : Nat → Nat → Int32} (hC : zz_CS I R a (p, sl, lo, nb, nm, mb, ms, sc, bt)) (hR : zz_RW R a) (hn : nb ≤ 10) {v : Nat} (hv : ∀ k, k < v → k < nm) : zz_CS (mc_u I (a + 5) 1 (nI v)) R a (p, sl, lo, nb, v, mb, ms, sc, bt) := by
  obtain ⟨⟨h0, h1, h2, h3, h4, h5, h6, h7, h8, h9, h10, h11, h12⟩, hw, hm, hb⟩ := hC
  refine ⟨⟨?_, ?_, ?_, ?_, ?_, ?_, ?_, ?_, ?_, ?_, ?_, ?_, ?_⟩, fun k hk => ?_, fun k hk => ?_, fun k hk => ?_⟩
  · rw [mz_u, if_neg (by omega)]
    exact h0
  · rw [mz_u, if_neg (by omega)]
    exact h1
  · rw [mz_u, if_neg (by omega)]
    exact h2
  · rw [mz_u, if_neg (by omega)]
    exact h3
  · rw [mz_u, if_pos ⟨rfl, rfl⟩]
  · rw [mz_u, if_neg (by omega)]
    exact h5
  · rw [mz_u, if_neg (by omega)]
    exact h6
  · rw [mz_u, if_neg (by omega)]
    exact h7
  · rw [mz_u, if_neg (by omega)]
    exact h8
  · rw [mz_u, if_neg (by omega)]
    exact h9
  · rw [mz_u, if_neg (by omega)]
    exact h10
  · rw [mz_u, if_neg (by omega)]
    exact h11
  · rw [mz_u, if_neg (by omega)]
    exact h12
  · rw [mz_u, if_neg (by omega), mz_u, if_neg (by omega)]
    exact hw k hk
  · rw [mz_u, if_neg (by omega)]
    exact hm k (hv k hk)
  · have := (hR k (by omega)).2.1
    rw [mz_ux _ (by omega)]
    exact hb k hk
theorem zu_ms {I : Nat → Nat → Int32} {R : Nat → Nat → Option Nat} {a p sl lo nb nm : Nat} {mb ms : Nat → Nat} {sc : Nat → Int32} {bt : Nat → Nat → Int32} (hC : zz_CS I R a (p, sl, lo, nb, nm, mb, ms, sc, bt)) (hR : zz_RW R a) (hn : nb ≤ 10) (j v : Nat) : zz_CS (mc_u I (a + 6) j (nI v)) R a (p, sl, lo, nb, nm, mb, va_up ms j v, sc, bt) := by
  obtain ⟨⟨h0, h1, h2, h3, h4, h5, h6, h7, h8, h9, h10, h11, h12⟩, hw, hm, hb⟩ := hC
  refine ⟨⟨?_, ?_, ?_, ?_, ?_, ?_, ?_, ?_, ?_, ?_, ?_, ?_, ?_⟩, fun k hk => ?_, fun k hk => ?_, fun k hk => ?_⟩
  · rw [mz_u, if_neg (by omega)]
    exact h0
  · rw [mz_u, if_neg (by omega)]
    exact h1
  · rw [mz_u, if_neg (by omega)]
    exact h2
  · rw [mz_u, if_neg (by omega)]
    exact h3
  · rw [mz_u, if_neg (by omega)]
    exact h4
  · rw [mz_u, if_neg (by omega)]
    exact h5
  · rw [mz_u, if_neg (by omega)]
    exact h6
  · rw [mz_u, if_neg (by omega)]
    exact h7
  · rw [mz_u, if_neg (by omega)]
    exact h8
  · rw [mz_u, if_neg (by omega)]
    exact h9
  · rw [mz_u, if_neg (by omega)]
    exact h10
  · rw [mz_u, if_neg (by omega)]
    exact h11
  · rw [mz_u, if_neg (by omega)]
    exact h12
  · rw [mz_u, if_neg (by omega), mz_u, if_neg (by omega)]
    exact hw k hk
  · rw [mz_u]
    by_cases hj : k = j
    · subst hj
      rw [if_pos ⟨rfl, rfl⟩, va_up_self]
    · rw [if_neg (fun q => hj q.2), va_up_ne _ _ hj]
      exact hm k hk
  · have := (hR k (by omega)).2.1
    rw [mz_ux _ (by omega)]
    exact hb k hk
theorem zu_nm1 {I : Nat → Nat → Int32} {R : Nat → Nat → Option Nat} {a p sl lo nb nm : Nat} {mb ms : Nat → Nat} {sc : Nat → Int32} {bt : Nat → Nat → Int32} (hC : zz_CS I R a (p, sl, lo, nb, nm, mb, ms, sc, bt)) (hR : zz_RW R a) (hn : nb ≤ 10) (v : Nat) : zz_CS (mc_u (mc_u I (a + 6) nm (nI v)) (a + 5) 1 (nI (nm + 1))) R a (p, sl, lo, nb, nm + 1, mb, va_up ms nm v, sc, bt) := by
  obtain ⟨⟨h0, h1, h2, h3, h4, h5, h6, h7, h8, h9, h10, h11, h12⟩, hw, hm, hb⟩ := hC
  refine ⟨⟨?_, ?_, ?_, ?_, ?_, ?_, ?_, ?_, ?_, ?_, ?_, ?_, ?_⟩, fun k hk => ?_, fun k hk => ?_, fun k hk => ?_⟩
  · rw [mz_u, if_neg (by omega), mz_u, if_neg (by omega)]
    exact h0
  · rw [mz_u, if_neg (by omega), mz_u, if_neg (by omega)]
    exact h1
  · rw [mz_u, if_neg (by omega), mz_u, if_neg (by omega)]
    exact h2
  · rw [mz_u, if_neg (by omega), mz_u, if_neg (by omega)]
    exact h3
  · rw [mz_u, if_pos ⟨rfl, rfl⟩]
  · rw [mz_u, if_neg (by omega), mz_u, if_neg (by omega)]
    exact h5
  · rw [mz_u, if_neg (by omega), mz_u, if_neg (by omega)]
    exact h6
  · rw [mz_u, if_neg (by omega), mz_u, if_neg (by omega)]
    exact h7
  · rw [mz_u, if_neg (by omega), mz_u, if_neg (by omega)]
    exact h8
  · rw [mz_u, if_neg (by omega), mz_u, if_neg (by omega)]
    exact h9
  · rw [mz_u, if_neg (by omega), mz_u, if_neg (by omega)]
    exact h10
  · rw [mz_u, if_neg (by omega), mz_u, if_neg (by omega)]
    exact h11
  · rw [mz_u, if_neg (by omega), mz_u, if_neg (by omega)]
    exact h12
  · rw [mz_u, if_neg (by omega), mz_u, if_neg (by omega), mz_u, if_neg (by omega), mz_u, if_neg (by omega)]
    exact hw k hk
  · rw [mz_u, if_neg (by omega), mz_u]
    by_cases hj : k = nm
    · subst hj
      rw [if_pos ⟨rfl, rfl⟩, va_up_self]
    · rw [if_neg (fun q => hj q.2), va_up_ne _ _ hj]
      exact hm k (by omega)
  · have := (hR k (by omega)).2.1
    rw [mz_ux _ (by omega), mz_ux _ (by omega)]
    exact hb k hk
theorem zu_b {I : Nat → Nat → Int32} {R : Nat → Nat → Option Nat} {a p sl lo nb nm : Nat} {mb ms : Nat → Nat} {sc : Nat → Int32} {bt : Nat → Nat → Int32} {I1 : Nat → Nat → Int32} {k : Nat} {t : Nat → Int32} (hC : zz_CS I R a (p, sl, lo, nb, nm, mb, ms, sc, bt)) (hR : zz_RW R a) (hn : nb ≤ 10) (hk : k < nb) (hx : ∀ x, x ≠ zz_bp R a k → I1 x = I x) (hcb : zz_cb (I1 (zz_bp R a k)) (mb k) t) : zz_CS I1 R a (p, sl, lo, nb, nm, mb, ms, sc, va_up bt k t) ∧ zz_fr a I I1 := by
  have hbk := hR k (by omega)
  obtain ⟨⟨h0, h1, h2, h3, h4, h5, h6, h7, h8, h9, h10, h11, h12⟩, hw, hm, hb⟩ := hC
  refine ⟨⟨⟨?_, ?_, ?_, ?_, ?_, ?_, ?_, ?_, ?_, ?_, ?_, ?_, ?_⟩, fun j hj => ?_, fun j hj => ?_, fun j hj => ?_⟩, fun x hx2 => hx x (by omega)⟩
  · rw [hx _ (by omega)]
    exact h0
  · rw [hx _ (by omega)]
    exact h1
  · rw [hx _ (by omega)]
    exact h2
  · rw [hx _ (by omega)]
    exact h3
  · rw [hx _ (by omega)]
    exact h4
  · rw [hx _ (by omega)]
    exact h5
  · rw [hx _ (by omega)]
    exact h6
  · rw [hx _ (by omega)]
    exact h7
  · rw [hx _ (by omega)]
    exact h8
  · rw [hx _ (by omega)]
    exact h9
  · rw [hx _ (by omega)]
    exact h10
  · rw [hx _ (by omega)]
    exact h11
  · rw [hx _ (by omega)]
    exact h12
  · rw [hx _ (by omega), hx _ (by omega)]
    exact hw j hj
  · rw [hx _ (by omega)]
    exact hm j hj
  · by_cases hj2 : j = k
    · subst hj2
      rw [va_up_self]
      exact hcb
    · rw [va_up_ne _ _ hj2, hx _ (fun q => hj2 ((hbk.2.2.2 j (by omega) q.symm).symm))]
      exact hb j hj
theorem zu_fr {I : Nat → Nat → Int32} {a x k : Nat} {v : Int32} (h1 : a ≤ x) (h2 : x < a + 18) : zz_fr a I (mc_u I x k v) := fun y hy => mz_ux _ (by omega)
theorem zz_fr.trans {a : Nat} {I I1 I2 : Nat → Nat → Int32} (h1 : zz_fr a I I1) (h2 : zz_fr a I1 I2) : zz_fr a I I2 := fun x hx => (h2 x hx).trans (h1 x hx)
theorem zz_fr.rfl {a : Nat} {I : Nat → Nat → Int32} : zz_fr a I I := fun _ _ => Eq.refl _
/-- a bottle in the water is shut: the state behind -/
theorem zc_shutS {I : Nat → Nat → Int32} {R : Nat → Nat → Option Nat} {a p sl lo nb nm : Nat} {mb ms : Nat → Nat} {sc : Nat → Int32} {bt : Nat → Nat → Int32} {k : Nat} (hC : zz_CS I R a (p, sl, lo, nb, nm, mb, ms, sc, bt)) (hR : zz_RW R a) (hp : p ≤ 999) (hs : sl ≤ 6) (hl : lo ≤ 1) (hn : nb ≤ 10) (hk : k < nb) (hgp : mb k < p) :
    ∃ I1, mi_X5_shut I a (zz_bp R a k) = some I1 ∧ zz_fr a I I1 ∧ (∀ x, x ≠ zz_bp R a k → I1 x = I x) ∧ zz_CS I1 R a (p, sl, lo, nb, nm, mb, ms, sc, va_up bt k (sp_sb p (sp_cs sl lo) sc (mb k) (bt k))) := by
  have hbk := hR k (by omega)
  have hC' := hC
  obtain ⟨⟨h0, h1, h2, h3, h4, h5, h6, h7, h8, h9, h10, h11, h12⟩, hw, hm, hb⟩ := hC
  obtain ⟨g0, g1, g2, g3, g4, -⟩ := hb k hk
  obtain ⟨I1, e1, e2, f0, f1, f2, f4, f3, f5, f6, f7, f8, f9, f10⟩ := zc_shut h0 h1 h2 hs hl hp hbk.2.1 g0 hgp
  have hly := sp_lay_le (sp_dep (p - mb k) (sp_cs sl lo))
  obtain ⟨w1, w2⟩ := hw _ (Nat.lt_succ_of_le hly)
  obtain ⟨q1, q2⟩ := zu_b (t := sp_sb p (sp_cs sl lo) sc (mb k) (bt k)) hC' hR hn hk e2 ⟨by rw [f0]; exact g0, by rw [f1, g1]; rfl, by rw [f2, g2]; rfl, by rw [f3]; rfl, by rw [f4, g4]; rfl, fun _ => ⟨by rw [f5, h5]; rfl, by rw [f6]; rfl, by rw [f7]; rfl, by rw [f8, w1]; rfl, by rw [f9, w1]; rfl, by rw [f10, w2]; rfl⟩⟩
  exact ⟨I1, e1, q2, e2, q1⟩


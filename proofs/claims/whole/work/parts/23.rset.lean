/-! one write into a row of the reference, and what the state then says; its small methods (by wip/whole/gen/gen_rset.py) -/
theorem zv_s0 {J : Nat → Nat → Int32} {fl : Nat → Int32} {b p sl lo nb nm : Nat} {mb ms : Nat → Nat} {sc : Nat → Int32} {bt : Nat → Nat → Int32} (hC : zz_RT J b fl (p, sl, lo, nb, nm, mb, ms, sc, bt)) (hn : nb ≤ 10) (hm2 : nm ≤ 12) (v : Int32) : zz_RT (mc_u J 1 b v) b fl (p, sl, lo, nb, nm, mb, ms, va_up sc 0 v, bt) ∧ zz_frJ b J (mc_u J 1 b v) := by
  obtain ⟨⟨h0, h1, h2, h3, h4, h5⟩, hs, hm, hb⟩ := hC
  refine ⟨⟨⟨?_, ?_, ?_, ?_, ?_, ?_⟩, fun k hk1 hk2 => ?_, fun k hk => ?_, fun k hk => ⟨?_, fun j hj1 hj2 => ?_⟩⟩, fun x hx => mz_ux _ hx, fun i hi => ?_⟩
  · rw [mz_u, if_pos ⟨rfl, rfl⟩, va_up_self]
  · rw [mz_u, if_neg (by omega)]
    exact h1
  · rw [mz_u, if_neg (by omega)]
    exact h2
  · rw [mz_u, if_neg (by omega)]
    exact h3
  · rw [mz_u, if_neg (by omega)]
    exact h4
  · rw [mz_u, if_neg (by omega)]
    exact h5
  · rw [mz_u, if_neg (by omega), va_up_ne _ _ (by omega)]
    exact hs k hk1 hk2
  · rw [mz_u, if_neg (by omega), mz_u, if_neg (by omega)]
    exact hm k hk
  · rw [mz_u, if_neg (by omega)]
    exact (hb k hk).1
  · rw [mz_u, if_neg (by omega)]
    exact (hb k hk).2 j hj1 hj2
  · rw [mz_u, if_neg (by omega)]
theorem zv_sc {J : Nat → Nat → Int32} {fl : Nat → Int32} {b p sl lo nb nm : Nat} {mb ms : Nat → Nat} {sc : Nat → Int32} {bt : Nat → Nat → Int32} {q : Nat} (hC : zz_RT J b fl (p, sl, lo, nb, nm, mb, ms, sc, bt)) (hn : nb ≤ 10) (hm2 : nm ≤ 12) (hq1 : 6 ≤ q) (hq2 : q < 33) (v : Int32) : zz_RT (mc_u J 1 (b + q) v) b fl (p, sl, lo, nb, nm, mb, ms, va_up sc q v, bt) ∧ zz_frJ b J (mc_u J 1 (b + q) v) := by
  obtain ⟨⟨h0, h1, h2, h3, h4, h5⟩, hs, hm, hb⟩ := hC
  refine ⟨⟨⟨?_, ?_, ?_, ?_, ?_, ?_⟩, fun k hk1 hk2 => ?_, fun k hk => ?_, fun k hk => ⟨?_, fun j hj1 hj2 => ?_⟩⟩, fun x hx => mz_ux _ hx, fun i hi => ?_⟩
  · rw [mz_u, if_neg (by omega), va_up_ne _ _ (by omega)]
    exact h0
  · rw [mz_u, if_neg (by omega)]
    exact h1
  · rw [mz_u, if_neg (by omega)]
    exact h2
  · rw [mz_u, if_neg (by omega)]
    exact h3
  · rw [mz_u, if_neg (by omega)]
    exact h4
  · rw [mz_u, if_neg (by omega)]
    exact h5
  · rw [mz_u]
    by_cases hk : k = q
    · subst hk
      rw [if_pos ⟨rfl, rfl⟩, va_up_self]
    · rw [if_neg (by omega), va_up_ne _ _ hk]
      exact hs k hk1 hk2
  · rw [mz_u, if_neg (by omega), mz_u, if_neg (by omega)]
    exact hm k hk
  · rw [mz_u, if_neg (by omega)]
    exact (hb k hk).1
  · rw [mz_u, if_neg (by omega)]
    exact (hb k hk).2 j hj1 hj2
  · rw [mz_u, if_neg (by omega)]
theorem zv_p {J : Nat → Nat → Int32} {fl : Nat → Int32} {b p sl lo nb nm : Nat} {mb ms : Nat → Nat} {sc : Nat → Int32} {bt : Nat → Nat → Int32} (hC : zz_RT J b fl (p, sl, lo, nb, nm, mb, ms, sc, bt)) (hn : nb ≤ 10) (hm2 : nm ≤ 12) (v : Nat) : zz_RT (mc_u J 1 (b + 1) (nI v)) b fl (v, sl, lo, nb, nm, mb, ms, sc, bt) ∧ zz_frJ b J (mc_u J 1 (b + 1) (nI v)) := by
  obtain ⟨⟨h0, h1, h2, h3, h4, h5⟩, hs, hm, hb⟩ := hC
  refine ⟨⟨⟨?_, ?_, ?_, ?_, ?_, ?_⟩, fun k hk1 hk2 => ?_, fun k hk => ?_, fun k hk => ⟨?_, fun j hj1 hj2 => ?_⟩⟩, fun x hx => mz_ux _ hx, fun i hi => ?_⟩
  · rw [mz_u, if_neg (by omega)]
    exact h0
  · rw [mz_u, if_pos ⟨rfl, rfl⟩]
  · rw [mz_u, if_neg (by omega)]
    exact h2
  · rw [mz_u, if_neg (by omega)]
    exact h3
  · rw [mz_u, if_neg (by omega)]
    exact h4
  · rw [mz_u, if_neg (by omega)]
    exact h5
  · rw [mz_u, if_neg (by omega)]
    exact hs k hk1 hk2
  · rw [mz_u, if_neg (by omega), mz_u, if_neg (by omega)]
    exact hm k hk
  · rw [mz_u, if_neg (by omega)]
    exact (hb k hk).1
  · rw [mz_u, if_neg (by omega)]
    exact (hb k hk).2 j hj1 hj2
  · rw [mz_u, if_neg (by omega)]
theorem zv_sl {J : Nat → Nat → Int32} {fl : Nat → Int32} {b p sl lo nb nm : Nat} {mb ms : Nat → Nat} {sc : Nat → Int32} {bt : Nat → Nat → Int32} (hC : zz_RT J b fl (p, sl, lo, nb, nm, mb, ms, sc, bt)) (hn : nb ≤ 10) (hm2 : nm ≤ 12) (v : Nat) : zz_RT (mc_u J 1 (b + 2) (nI v)) b fl (p, v, lo, nb, nm, mb, ms, sc, bt) ∧ zz_frJ b J (mc_u J 1 (b + 2) (nI v)) := by
  obtain ⟨⟨h0, h1, h2, h3, h4, h5⟩, hs, hm, hb⟩ := hC
  refine ⟨⟨⟨?_, ?_, ?_, ?_, ?_, ?_⟩, fun k hk1 hk2 => ?_, fun k hk => ?_, fun k hk => ⟨?_, fun j hj1 hj2 => ?_⟩⟩, fun x hx => mz_ux _ hx, fun i hi => ?_⟩
  · rw [mz_u, if_neg (by omega)]
    exact h0
  · rw [mz_u, if_neg (by omega)]
    exact h1
  · rw [mz_u, if_pos ⟨rfl, rfl⟩]
  · rw [mz_u, if_neg (by omega)]
    exact h3
  · rw [mz_u, if_neg (by omega)]
    exact h4
  · rw [mz_u, if_neg (by omega)]
    exact h5
  · rw [mz_u, if_neg (by omega)]
    exact hs k hk1 hk2
  · rw [mz_u, if_neg (by omega), mz_u, if_neg (by omega)]
    exact hm k hk
  · rw [mz_u, if_neg (by omega)]
    exact (hb k hk).1
  · rw [mz_u, if_neg (by omega)]
    exact (hb k hk).2 j hj1 hj2
  · rw [mz_u, if_neg (by omega)]
theorem zv_lo {J : Nat → Nat → Int32} {fl : Nat → Int32} {b p sl lo nb nm : Nat} {mb ms : Nat → Nat} {sc : Nat → Int32} {bt : Nat → Nat → Int32} (hC : zz_RT J b fl (p, sl, lo, nb, nm, mb, ms, sc, bt)) (hn : nb ≤ 10) (hm2 : nm ≤ 12) (v : Nat) : zz_RT (mc_u J 1 (b + 3) (nI v)) b fl (p, sl, v, nb, nm, mb, ms, sc, bt) ∧ zz_frJ b J (mc_u J 1 (b + 3) (nI v)) := by
  obtain ⟨⟨h0, h1, h2, h3, h4, h5⟩, hs, hm, hb⟩ := hC
  refine ⟨⟨⟨?_, ?_, ?_, ?_, ?_, ?_⟩, fun k hk1 hk2 => ?_, fun k hk => ?_, fun k hk => ⟨?_, fun j hj1 hj2 => ?_⟩⟩, fun x hx => mz_ux _ hx, fun i hi => ?_⟩
  · rw [mz_u, if_neg (by omega)]
    exact h0
  · rw [mz_u, if_neg (by omega)]
    exact h1
  · rw [mz_u, if_neg (by omega)]
    exact h2
  · rw [mz_u, if_pos ⟨rfl, rfl⟩]
  · rw [mz_u, if_neg (by omega)]
    exact h4
  · rw [mz_u, if_neg (by omega)]
    exact h5
  · rw [mz_u, if_neg (by omega)]
    exact hs k hk1 hk2
  · rw [mz_u, if_neg (by omega), mz_u, if_neg (by omega)]
    exact hm k hk
  · rw [mz_u, if_neg (by omega)]
    exact (hb k hk).1
  · rw [mz_u, if_neg (by omega)]
    exact (hb k hk).2 j hj1 hj2
  · rw [mz_u, if_neg (by omega)]
theorem zv_nm {J : Nat → Nat → Int32} {fl : Nat → Int32} {b p sl lo nb nm : Nat} {mb ms : Nat → Nat} {sc : Nat → Int32} {bt : Nat → Nat → Int32} (hC : zz_RT J b fl (p, sl, lo, nb, nm, mb, ms, sc, bt)) (hn : nb ≤ 10) (hm2 : nm ≤ 12) {v : Nat} (hv : ∀ k, k < v → k < nm) : zz_RT (mc_u J 1 (b + 5) (nI v)) b fl (p, sl, lo, nb, v, mb, ms, sc, bt) ∧ zz_frJ b J (mc_u J 1 (b + 5) (nI v)) := by
  obtain ⟨⟨h0, h1, h2, h3, h4, h5⟩, hs, hm, hb⟩ := hC
  refine ⟨⟨⟨?_, ?_, ?_, ?_, ?_, ?_⟩, fun k hk1 hk2 => ?_, fun k hk => ?_, fun k hk => ⟨?_, fun j hj1 hj2 => ?_⟩⟩, fun x hx => mz_ux _ hx, fun i hi => ?_⟩
  · rw [mz_u, if_neg (by omega)]
    exact h0
  · rw [mz_u, if_neg (by omega)]
    exact h1
  · rw [mz_u, if_neg (by omega)]
    exact h2
  · rw [mz_u, if_neg (by omega)]
    exact h3
  · rw [mz_u, if_neg (by omega)]
    exact h4
  · rw [mz_u, if_pos ⟨rfl, rfl⟩]
  · rw [mz_u, if_neg (by omega)]
    exact hs k hk1 hk2
  · rw [mz_u, if_neg (by omega), mz_u, if_neg (by omega)]
    exact hm k (hv k hk)
  · rw [mz_u, if_neg (by omega)]
    exact (hb k hk).1
  · rw [mz_u, if_neg (by omega)]
    exact (hb k hk).2 j hj1 hj2
  · rw [mz_u, if_neg (by omega)]
theorem zv_bt {J : Nat → Nat → Int32} {fl : Nat → Int32} {b p sl lo nb nm : Nat} {mb ms : Nat → Nat} {sc : Nat → Int32} {bt : Nat → Nat → Int32} {q r : Nat} (hC : zz_RT J b fl (p, sl, lo, nb, nm, mb, ms, sc, bt)) (hn : nb ≤ 10) (hm2 : nm ≤ 12) (hq : q < nb) (hr1 : 1 ≤ r) (hr2 : r < 11) (v : Int32) : zz_RT (mc_u J 1 (b + 33 + 12 * q + r) v) b fl (p, sl, lo, nb, nm, mb, ms, sc, va_up bt q (va_up (bt q) r v)) ∧ zz_frJ b J (mc_u J 1 (b + 33 + 12 * q + r) v) := by
  obtain ⟨⟨h0, h1, h2, h3, h4, h5⟩, hs, hm, hb⟩ := hC
  refine ⟨⟨⟨?_, ?_, ?_, ?_, ?_, ?_⟩, fun k hk1 hk2 => ?_, fun k hk => ?_, fun k hk => ⟨?_, fun j hj1 hj2 => ?_⟩⟩, fun x hx => mz_ux _ hx, fun i hi => ?_⟩
  · rw [mz_u, if_neg (by omega)]
    exact h0
  · rw [mz_u, if_neg (by omega)]
    exact h1
  · rw [mz_u, if_neg (by omega)]
    exact h2
  · rw [mz_u, if_neg (by omega)]
    exact h3
  · rw [mz_u, if_neg (by omega)]
    exact h4
  · rw [mz_u, if_neg (by omega)]
    exact h5
  · rw [mz_u, if_neg (by omega)]
    exact hs k hk1 hk2
  · rw [mz_u, if_neg (by omega), mz_u, if_neg (by omega)]
    exact hm k hk
  · rw [mz_u, if_neg (by omega)]
    exact (hb k hk).1
  · rw [mz_u]
    by_cases hkq : k = q
    · subst hkq
      rw [va_up_self]
      by_cases hjq : j = r
      · subst hjq
        rw [if_pos ⟨rfl, rfl⟩, va_up_self]
      · rw [if_neg (by omega), va_up_ne _ _ hjq]
        exact (hb k hk).2 j hj1 hj2
    · rw [if_neg (by omega), va_up_ne _ _ hkq]
      exact (hb k hk).2 j hj1 hj2
  · rw [mz_u, if_neg (by omega)]
theorem zz_frJ.trans {b : Nat} {J J1 J2 : Nat → Nat → Int32} (h1 : zz_frJ b J J1) (h2 : zz_frJ b J1 J2) : zz_frJ b J J2 := ⟨fun x hx => (h2.1 x hx).trans (h1.1 x hx), fun i hi => (h2.2 i hi).trans (h1.2 i hi)⟩
theorem zz_frJ.rfl {b : Nat} {J : Nat → Nat → Int32} : zz_frJ b J J := ⟨fun _ _ => Eq.refl _, fun _ _ => Eq.refl _⟩
theorem zr_f {c : Nat} (h : c ≤ 6) : mi_X9_factor (nI c) = nI (sp_f c) := by
  rcases (show c = 0 ∨ c = 1 ∨ c = 2 ∨ c = 3 ∨ c = 4 ∨ c = 5 ∨ c = 6 by omega) with rfl | rfl | rfl | rfl | rfl | rfl | rfl <;> decide
theorem zr_deep {m c : Nat} (hm : m ≤ 999) (hc : c ≤ 6) : mi_X9_deep (nI m) (nI c) = nI (sp_dep m c) := by
  have hf := sp_mf_le (c := c) hm
  unfold mi_X9_deep
  rw [zr_f hc, zi_mul]
  exact zi_div (d := 1000) (by omega) (by decide) (by decide)
theorem zr_layerOf {d : Nat} (h : d ≤ 999999) : mi_X9_layerOf (nI d) = nI (sp_lay d) := by
  unfold mi_X9_layerOf sp_lay
  simp (disch := omega) only [zi_lit, zi_div, zi_le]
  by_cases h9 : d / 100 ≤ 9
  · rw [if_pos h9, if_pos h9]
  · rw [if_neg h9, if_neg h9]
theorem zr_counted {J : Nat → Nat → Int32} {b sl lo : Nat} (hb : b ≤ 1239) (h1 : J 1 (b + 2) = nI sl) (h2 : J 1 (b + 3) = nI lo) (hs : sl ≤ 6) (hl : lo ≤ 1) : mi_X9_counted J (nI b) = some (nI (sp_cs sl lo)) := by
  simp (disch := omega) only [mi_X9_counted, zi_lit, zi_add, zi_mul, zi_lt, zi_le, zi_cl, mz_bn, Nat.not_lt_zero, zn_nle, if_false, or_false, h1, h2]
  unfold sp_cs
  by_cases h : sl + 2 * lo ≤ 6
  · rw [if_pos h, if_pos h]
  · rw [if_neg h, if_neg h]
theorem zr_inw {J : Nat → Nat → Int32} {b k p g : Nat} (hb : b ≤ 1239) (hk : k < 10) (hp : J 1 (b + 1) = nI p) (hg : J 1 (b + 33 + 12 * k) = nI g) (hp2 : p ≤ 999) (hg2 : g ≤ 999) : mi_X9_isInWater J (nI b) (nI k) = if p ≤ g then some 0 else some 1 := by
  simp (disch := omega) only [mi_X9_isInWater, mi_X9_bottleAt, zi_lit, zi_add, zi_mul, zi_lt, zi_cl, mz_bn, Nat.not_lt_zero, zn_nle, if_false, or_false, hp, hg, zi_le]
theorem zr_metre {J : Nat → Nat → Int32} {b k p g : Nat} (hb : b ≤ 1239) (hk : k < 10) (hp : J 1 (b + 1) = nI p) (hg : J 1 (b + 33 + 12 * k) = nI g) (hp2 : p ≤ 999) (hg2 : g ≤ 999) : mi_X9_metre J (nI b) (nI k) = some (nI (p - g)) := by
  unfold mi_X9_metre
  rw [zr_inw hb hk hp hg hp2 hg2]
  by_cases h : p ≤ g
  · rw [if_pos h, mz_ob, if_pos rfl, show p - g = 0 by omega]
    rfl
  · rw [if_neg h, mz_ob, if_neg (by decide)]
    simp (disch := omega) only [mi_X9_bottleAt, zi_lit, zi_add, zi_mul, zi_lt, zi_cl, Nat.not_lt_zero, zn_nle, if_false, or_false, hp, hg, zi_sub]
/-- a bottle in the water is shut: the state behind -/
theorem zr_shutS {J : Nat → Nat → Int32} {fl : Nat → Int32} {b p sl lo nb nm : Nat} {mb ms : Nat → Nat} {sc : Nat → Int32} {bt : Nat → Nat → Int32} {k : Nat} (hb0 : b ≤ 1239) (hC : zz_RT J b fl (p, sl, lo, nb, nm, mb, ms, sc, bt)) (hp : p ≤ 999) (hs0 : sl ≤ 6) (hl : lo ≤ 1) (hn : nb ≤ 10) (hm2 : nm ≤ 12) (hk : k < nb) (hmk : mb k ≤ 999) :
    ∃ J1, mi_X9_shuts J (nI b) (nI k) = some J1 ∧ zz_frJ b J J1 ∧ zz_RT J1 b fl (p, sl, lo, nb, nm, mb, ms, sc, va_up bt k (sp_sb p (sp_cs sl lo) sc (mb k) (bt k))) ∧ (∀ i, i < b + 33 + 12 * k ∨ b + 45 + 12 * k ≤ i → J1 1 i = J 1 i) := by
  have hC' := hC
  obtain ⟨⟨h0, h1, h2, h3, h4, h5⟩, hs, hm, hb⟩ := hC
  have hd := sp_dep_le (m := p - mb k) (c := sp_cs sl lo) (by omega)
  have hly := sp_lay_le (sp_dep (p - mb k) (sp_cs sl lo))
  unfold mi_X9_shuts
  simp only [mz_bn]
  rw [zr_metre hb0 (by omega) h1 (hb k hk).1 hp hmk, mz_ob, zr_counted hb0 h2 h3 hs0 hl, mz_ob, zr_deep (by omega) (sp_cs_le _ _), zr_layerOf (by omega)]
  generalize hD : sp_dep (p - mb k) (sp_cs sl lo) = d at hd hly ⊢
  generalize hL : sp_lay d = ly at hly ⊢
  simp (disch := omega) only [mi_X9_bottleAt, zi_lit, zi_add, zi_mul, zi_lt, zi_cl, zi_div, Nat.not_lt_zero, zn_nle, if_false, or_false]
  generalize hJ1 : mc_u J 1 (b + 33 + 12 * k + 1) (nI 1) = J1
  generalize hJ2 : mc_u J1 1 (b + 33 + 12 * k + 5) (J1 1 (b + 0)) = J2
  generalize hJ3 : mc_u J2 1 (b + 33 + 12 * k + 6) (J2 1 (b + 13 + 2 * ly)) = J3
  generalize hJ4 : mc_u J3 1 (b + 33 + 12 * k + 7) (J3 1 (b + 13 + 2 * ly) + nI (d / 10)) = J4
  generalize hJ5 : mc_u J4 1 (b + 33 + 12 * k + 8) (J4 1 (b + 13 + 2 * ly + 1)) = J5
  have e1 : J1 1 (b + 0) = sc 0 := by rw [← hJ1, mz_u, if_neg (by omega)]; exact h0
  have e2 : J2 1 (b + 13 + 2 * ly) = sc (13 + 2 * ly) := by
    rw [← hJ2, mz_u, if_neg (by omega), ← hJ1, mz_u, if_neg (by omega), Nat.add_assoc]
    exact hs _ (by omega) (by omega)
  have e3 : J3 1 (b + 13 + 2 * ly) = sc (13 + 2 * ly) := by rw [← hJ3, mz_u, if_neg (by omega)]; exact e2
  have e4 : J4 1 (b + 13 + 2 * ly + 1) = sc (14 + 2 * ly) := by
    rw [← hJ4, mz_u, if_neg (by omega), ← hJ3, mz_u, if_neg (by omega), ← hJ2, mz_u, if_neg (by omega), ← hJ1, mz_u, if_neg (by omega), show b + 13 + 2 * ly + 1 = b + (14 + 2 * ly) by omega]
    exact hs _ (by omega) (by omega)
  have e5 : J5 1 (b + 1) = nI p := by
    rw [← hJ5, mz_u, if_neg (by omega), ← hJ4, mz_u, if_neg (by omega), ← hJ3, mz_u, if_neg (by omega), ← hJ2, mz_u, if_neg (by omega), ← hJ1, mz_u, if_neg (by omega)]
    exact h1
  have e6 : J5 1 (b + 33 + 12 * k) = nI (mb k) := by
    rw [← hJ5, mz_u, if_neg (by omega), ← hJ4, mz_u, if_neg (by omega), ← hJ3, mz_u, if_neg (by omega), ← hJ2, mz_u, if_neg (by omega), ← hJ1, mz_u, if_neg (by omega)]
    exact (hb k hk).1
  rw [e1] at hJ2
  rw [e2] at hJ3
  rw [e3] at hJ4
  rw [e4] at hJ5
  rw [zr_metre hb0 (by omega) e5 e6 hp hmk, mz_ob]
  generalize hJ6 : mc_u J5 1 (b + 33 + 12 * k + 9) (nI (p - mb k)) = J6
  generalize hJ7 : mc_u J6 1 (b + 33 + 12 * k + 10) (nI ly) = J7
  obtain ⟨q1, f1⟩ := zv_bt (r := 1) hC' hn hm2 hk (by omega) (by omega) (nI 1)
  rw [hJ1] at q1 f1
  obtain ⟨q2, f2⟩ := zv_bt (r := 5) q1 hn hm2 hk (by omega) (by omega) (sc 0)
  rw [hJ2] at q2 f2
  obtain ⟨q3, f3⟩ := zv_bt (r := 6) q2 hn hm2 hk (by omega) (by omega) (sc (13 + 2 * ly))
  rw [hJ3] at q3 f3
  obtain ⟨q4, f4⟩ := zv_bt (r := 7) q3 hn hm2 hk (by omega) (by omega) (sc (13 + 2 * ly) + nI (d / 10))
  rw [hJ4] at q4 f4
  obtain ⟨q5, f5⟩ := zv_bt (r := 8) q4 hn hm2 hk (by omega) (by omega) (sc (14 + 2 * ly))
  rw [hJ5] at q5 f5
  obtain ⟨q6, f6⟩ := zv_bt (r := 9) q5 hn hm2 hk (by omega) (by omega) (nI (p - mb k))
  rw [hJ6] at q6 f6
  obtain ⟨q7, f7⟩ := zv_bt (r := 10) q6 hn hm2 hk (by omega) (by omega) (nI ly)
  rw [hJ7] at q7 f7
  refine ⟨J7, rfl, f1.trans (f2.trans (f3.trans (f4.trans (f5.trans (f6.trans f7))))), ?_, ?_⟩
  · obtain ⟨g1, g2, g3, g4⟩ := q7
    refine ⟨g1, g2, g3, fun j hj => ⟨(g4 j hj).1, fun r hr1 hr2 => ?_⟩⟩
    rw [(g4 j hj).2 r hr1 hr2]
    by_cases hjk : j = k
    · subst hjk
      simp only [va_up_self]
      unfold sp_sb
      rw [hD, hL]
      rcases (show r = 1 ∨ r = 2 ∨ r = 3 ∨ r = 4 ∨ r = 5 ∨ r = 6 ∨ r = 7 ∨ r = 8 ∨ r = 9 ∨ r = 10 by omega) with rfl | rfl | rfl | rfl | rfl | rfl | rfl | rfl | rfl | rfl <;> simp [va_up, nI] <;> rfl
    · rw [va_up_ne _ _ hjk, va_up_ne _ _ hjk, va_up_ne _ _ hjk, va_up_ne _ _ hjk, va_up_ne _ _ hjk, va_up_ne _ _ hjk, va_up_ne _ _ hjk, va_up_ne _ _ hjk]
  · intro i hi
    rw [← hJ7, mz_u, if_neg (by omega), ← hJ6, mz_u, if_neg (by omega), ← hJ5, mz_u, if_neg (by omega), ← hJ4, mz_u, if_neg (by omega), ← hJ3, mz_u, if_neg (by omega), ← hJ2, mz_u, if_neg (by omega), ← hJ1, mz_u, if_neg (by omega)]

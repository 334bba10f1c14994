/-! each act: what holds stays, what is refused changes nothing -/
theorem zk_nd {n : Nat} (h : n < 2147483648) : ¬ nI n ≤ -1001 := by
  rw [Int32.le_iff_toInt_le, nI_toInt (by omega), show (-1001 : Int32).toInt = -1001 by decide]
  omega
theorem zk_wand {x : Int32} (h : zk_wa x) : ¬ x ≤ -1001 := by
  obtain ⟨v, hv, e⟩ := h
  have e2 : x = nI v - nI 20 := by
    rw [← e]
    exact (Int32.add_sub_cancel x 20).symm
  rw [Int32.le_iff_toInt_le, e2, zn_subT (by omega) (by omega), show (-1001 : Int32).toInt = -1001 by decide]
  omega
theorem zk_wane {x : Int32} {e : Nat} (h : zk_wa x) (he : e ≤ 999) : ¬ x + nI e = -1005 := by
  obtain ⟨v, hv, e1⟩ := h
  intro q
  have h2 : nI (v + e) = -1005 + 20 := by
    rw [← q, ← nI_add, ← e1]
    ac_rfl
  have h3 := congrArg Int32.toInt h2
  rw [nI_toInt (by omega), show (-1005 + 20 : Int32).toInt = -985 by decide] at h3
  omega
theorem zk_waI {x : Int32} (h1 : ¬ x < -20) (h2 : ¬ 300 < x) : zk_wa x := by
  have h3 : ¬ x.toInt < -20 := by
    rw [Int32.lt_iff_toInt_lt, show (-20 : Int32).toInt = -20 by decide] at h1
    exact h1
  have h4 : ¬ 300 < x.toInt := by
    rw [Int32.lt_iff_toInt_lt, show (300 : Int32).toInt = 300 by decide] at h2
    exact h2
  refine ⟨(x.toInt + 20).toNat, by omega, Int32.toInt_inj.mp ?_⟩
  rw [nI_toInt (by omega), Int32.toInt_add, show (20 : Int32).toInt = 20 by decide, Int.bmod_eq_of_le (by omega) (by omega)]
  omega
theorem zk_saI {x : Int32} (h1 : ¬ x < 0) (h2 : ¬ 420 < x) : zk_sa x := by
  rcases zn_ix x (n := 420) (by omega) with h | h | h
  · exact absurd h h1
  · exact absurd h h2
  · exact h
def zl_ok (S : mz_A → mz_A × Int32) : Prop := ∀ A, zk_ok A → zk_ok (S A).1 ∧ ((S A).2 ≤ -1001 → (S A).1 = A)
theorem zl_slope (x : Int32) : zl_ok (sq_slope x) := by
  intro A h
  have hW := zw_slope x h.1
  obtain ⟨p, sl, lo, nb, nm, mb, ms, sc, bt⟩ := A
  obtain ⟨⟨⟨w1, w2, w3, w4, w5⟩, -⟩, s, hs, hi⟩ := h
  refine ⟨⟨hW, s, hs, ?_⟩, ?_⟩
  · unfold sq_slope
    dsimp only
    split
    · exact hi
    · split
      · exact hi
      · exact hi
  · unfold sq_slope
    dsimp only
    split
    · exact fun _ => rfl
    · split
      · exact fun _ => rfl
      · exact fun q => absurd q (zk_nd (by omega))
theorem zl_weight {x : Nat} (hx : x ≤ 1) : zl_ok (sq_weight x) := by
  intro A h
  have hW := zw_weight hx h.1
  obtain ⟨p, sl, lo, nb, nm, mb, ms, sc, bt⟩ := A
  obtain ⟨⟨⟨w1, w2, w3, w4, w5⟩, -⟩, s, hs, hi⟩ := h
  refine ⟨⟨hW, s, hs, ?_⟩, ?_⟩
  · unfold sq_weight
    dsimp only
    split
    · exact hi
    · split
      · exact hi
      · exact hi
  · have := sp_cs_le sl x
    unfold sq_weight
    dsimp only
    split
    · exact fun _ => rfl
    · split
      · exact fun _ => rfl
      · exact fun q => absurd q (zk_nd (by omega))
theorem zl_set (w v : Int32) : zl_ok (sq_set w v) := by
  intro A h
  have hW := zw_set w v h.1
  obtain ⟨p, sl, lo, nb, nm, mb, ms, sc, bt⟩ := A
  obtain ⟨⟨⟨w1, w2, w3, w4, w5⟩, -⟩, s, hs, hi⟩ := h
  have hi' := hi
  obtain ⟨a1, ⟨⟨c1, d1, d2⟩, c2, d3, d4⟩, a3, a4, a5⟩ := hi
  have hx : sp_ix w = 11 ∨ sp_ix w = 12 := by
    unfold sp_ix
    split
    · exact Or.inl rfl
    · exact Or.inr rfl
  refine ⟨⟨hW, s, hs, ?_⟩, ?_⟩
  · unfold sq_set
    dsimp only
    split
    · exact hi'
    · split
      · exact hi'
      · split
        · exact hi'
        · next g1 g2 g3 =>
          have hv : ∃ j : Nat, j ≤ 999 ∧ v = nI j := by
            rcases zn_ix v (n := 999) (by omega) with q | q | q
            · refine absurd (Or.inl ?_) g2
              by_cases w0 : w = 0
              · rw [w0]
                exact q
              · by_cases w1 : w = 1
                · rw [w1]
                  rw [Int32.lt_iff_toInt_lt] at q ⊢
                  have e0 : (0 : Int32).toInt = 0 := by decide
                  have e1 : (1 : Int32).toInt = 1 := by decide
                  omega
                · exact absurd ⟨w0, w1⟩ g1
            · exact absurd (Or.inr q) g2
            · exact q
          have u : ∀ j, j ≠ sp_ix w → va_up sc (sp_ix w) v j = sc j := fun j hj => va_up_ne _ _ hj
          refine ⟨by rw [u _ (by omega)]; exact a1, ?_, a3, a4.cg (fun q hq => u q (by omega)), by rw [u _ (by omega), u _ (by omega), u _ (by omega), u _ (by omega), u _ (by omega)]; exact a5⟩
          obtain ⟨j, j1, j2⟩ := hv
          rcases hx with e | e
          · rw [e]
            exact ⟨⟨c1, d1, by rw [va_up_ne _ _ (by omega)]; exact d2⟩, j, j1, by rw [va_up_self]; exact j2⟩
          · rw [e]
            exact ⟨⟨j, j1, by rw [va_up_self]; exact j2⟩, c2, d3, by rw [va_up_ne _ _ (by omega)]; exact d4⟩
  · unfold sq_set
    dsimp only
    split
    · exact fun _ => rfl
    · split
      · exact fun _ => rfl
      · split
        · exact fun _ => rfl
        · intro q
          rcases hx with e | e
          · rw [e, d4] at q
            exact absurd q (zk_nd (by omega))
          · rw [e, d2] at q
            exact absurd q (zk_nd (by omega))
theorem zl_water (k w v : Int32) : zl_ok (sq_water k w v) := by
  intro A h
  have hW := zw_water k w v h.1
  obtain ⟨p, sl, lo, nb, nm, mb, ms, sc, bt⟩ := A
  obtain ⟨⟨⟨w1, w2, w3, w4, w5⟩, -⟩, s, hs, hi⟩ := h
  have hi' := hi
  obtain ⟨a1, a2, a3, a4, a5⟩ := hi
  refine ⟨⟨hW, s, hs, ?_⟩, ?_⟩
  · unfold sq_water
    dsimp only
    split
    · exact hi'
    · split
      · exact hi'
      · split
        · exact hi'
        · next g1 g2 g3 =>
          obtain ⟨j, hj, rfl⟩ : ∃ j : Nat, j ≤ 9 ∧ k = nI j := by
            rcases zn_ix k (n := 9) (by omega) with q | q | q
            · exact absurd (Or.inl q) g1
            · exact absurd (Or.inr q) g1
            · exact q
          rw [zi_cl (by omega)]
          have u : ∀ q, q ≠ 13 + 2 * j → q ≠ 14 + 2 * j → va_up (va_up sc (13 + 2 * j) w) (14 + 2 * j) v q = sc q := fun q q1 q2 => by rw [va_up_ne _ _ q2, va_up_ne _ _ q1]
          refine ⟨by rw [u _ (by omega) (by omega)]; exact a1, a2.cg (u _ (by omega) (by omega)) (u _ (by omega) (by omega)), a3, fun i hi => ?_, by rw [u _ (by omega) (by omega), u _ (by omega) (by omega), u _ (by omega) (by omega), u _ (by omega) (by omega), u _ (by omega) (by omega)]; exact a5⟩
          by_cases e : i = j
          · subst e
            rw [va_up_self, va_up_ne _ _ (by omega), va_up_self]
            exact ⟨zk_waI (fun q => g2 (Or.inl q)) (fun q => g2 (Or.inr (Or.inl q))), zk_saI (fun q => g2 (Or.inr (Or.inr (Or.inl q)))) (fun q => g2 (Or.inr (Or.inr (Or.inr q))))⟩
          · rw [u _ (by omega) (by omega), u _ (by omega) (by omega)]
            exact a4 i hi
  · unfold sq_water
    dsimp only
    split
    · exact fun _ => rfl
    · split
      · exact fun _ => rfl
      · split
        · exact fun _ => rfl
        · next g1 g2 g3 =>
          obtain ⟨j, hj, rfl⟩ : ∃ j : Nat, j ≤ 9 ∧ k = nI j := by
            rcases zn_ix k (n := 9) (by omega) with q | q | q
            · exact absurd (Or.inl q) g1
            · exact absurd (Or.inr q) g1
            · exact q
          rw [zi_cl (by omega)]
          exact fun q => absurd q (zk_wand (a4 j (by omega)).1)
theorem zl_send : zl_ok sq_send := by
  intro A h
  have hW := zw_send h.1
  obtain ⟨p, sl, lo, nb, nm, mb, ms, sc, bt⟩ := A
  obtain ⟨⟨⟨w1, w2, w3, w4, w5⟩, -⟩, s, hs, hi⟩ := h
  have hi' := hi
  obtain ⟨a1, a2, a3, a4, a5⟩ := hi
  refine ⟨⟨hW, s, hs, ?_⟩, ?_⟩
  · unfold sq_send
    dsimp only
    split
    · exact hi'
    · split
      · exact hi'
      · have u : ∀ j, j ≠ 6 → va_up sc 6 (sc 6 + nI 1) j = sc j := fun j hj => va_up_ne _ _ hj
        refine ⟨by rw [u _ (by omega)]; exact a1, a2.cg (u _ (by omega)) (u _ (by omega)), a3, a4.cg (fun q hq => u q (by omega)), ?_⟩
        rw [va_up_self, u 7 (by omega), u 8 (by omega), u 9 (by omega), u 10 (by omega), ← nI_add, show sc 6 + nI 1 + sc 7 = sc 6 + sc 7 + nI 1 by ac_rfl, a5]
        ac_rfl
  · unfold sq_send
    dsimp only
    split
    · exact fun _ => rfl
    · split
      · exact fun _ => rfl
      · exact fun q => absurd q (zk_nd (by omega))
theorem zl_pay (x : Int32) : zl_ok (sq_pay x) := by
  intro A h
  have hW := zw_pay x h.1
  obtain ⟨p, sl, lo, nb, nm, mb, ms, sc, bt⟩ := A
  obtain ⟨⟨⟨w1, w2, w3, w4, w5⟩, x1, x2, x3, x4, x5⟩, s, hs, hi⟩ := h
  have hi' := hi
  obtain ⟨a1, a2, a3, a4, a5⟩ := hi
  refine ⟨⟨hW, s, hs, ?_⟩, ?_⟩
  · unfold sq_pay
    dsimp only
    split
    · exact hi'
    · split
      · exact hi'
      · split
        · exact hi'
        · next g1 g2 g3 =>
          have hq : (nI p + x).toNatClampNeg ≤ 999 := by
            rcases zn_ix (nI p + x) (n := 999) (by omega) with h | h | ⟨j, hj, e⟩
            · exact absurd h g2
            · exact absurd h g3
            · rw [e, zi_cl (by omega)]
              exact hj
          generalize (nI p + x).toNatClampNeg = q at hq
          have hcl := sp_cut_le q ms nm
          have u : ∀ (v : Int32) j, j ≠ 10 → va_up sc 10 v j = sc j := fun v j hj => va_up_ne _ _ hj
          refine ⟨by rw [u _ _ (by omega)]; exact a1, a2.cg (u _ _ (by omega)) (u _ _ (by omega)), fun k hk => ?_, a4.cg (fun q hq => u _ q (by omega)), ?_⟩
          · split
            · exact a3 k hk
            · cases sp_up q mb bt nb 0 with
              | none => exact a3 k hk
              | some j =>
                show zk_b s (12 * s) (va_up bt j _ k)
                by_cases e : k = j
                · subst e
                  rw [va_up_self]
                  exact zk_jk a1 a4 hq (a3 k hk)
                · rw [va_up_ne _ _ e]
                  exact a3 k hk
          · rw [va_up_self, u _ 6 (by omega), u _ 7 (by omega), u _ 8 (by omega), u _ 9 (by omega), a5]
            generalize sp_cut q ms nm = cu at hcl
            rw [show nI nm = nI cu + nI (nm - cu) by rw [nI_add]; exact congrArg nI (by omega)]
            ac_rfl
  · unfold sq_pay
    dsimp only
    split
    · exact fun _ => rfl
    · split
      · exact fun _ => rfl
      · split
        · exact fun _ => rfl
        · exact fun q => absurd q (zk_nd (by omega))
theorem zl_clamp {x : Nat} (hx : x ≤ 1) : zl_ok (sq_clamp x) := by
  intro A h
  have hW := zw_clamp hx h.1
  obtain ⟨p, sl, lo, nb, nm, mb, ms, sc, bt⟩ := A
  obtain ⟨⟨⟨w1, w2, w3, w4, w5⟩, x1, x2, x3, x4, x5⟩, s, hs, hi⟩ := h
  have hi' := hi
  obtain ⟨a1, a2, a3, a4, a5⟩ := hi
  have hfr : zk_b s (12 * s) (sp_fresh x) := ⟨fun _ => ⟨rfl, rfl⟩, ⟨0, Nat.zero_le _, rfl⟩, fun q => absurd (show (0 : Int32) = 1 from q) zk_01⟩
  refine ⟨⟨hW, s, hs, ?_⟩, ?_⟩
  · unfold sq_clamp
    dsimp only
    by_cases c : nb = 10
    · rw [if_pos c]
      exact hi'
    · rw [if_neg c]
      cases hr : sp_nr p mb nb 0 0 with
      | none => exact hi'
      | some r =>
        obtain ⟨r1, r2, r3⟩ := sp_nr_ok x2 nb 0 0 r (by omega) (by omega) (fun q hq => by omega) (fun q q1 q2 => by omega) hr
        refine ⟨a1, a2, fun k hk => ?_, a4, a5⟩
        rcases Nat.lt_trichotomy k r with g | g | g
        · rw [sp_ins1 g]; exact a3 k (by omega)
        · subst g; rw [sp_ins2]; exact hfr
        · rw [sp_ins3 g]; exact a3 _ (by omega)
  · unfold sq_clamp
    dsimp only
    by_cases c : nb = 10
    · rw [if_pos c]
      exact fun _ => rfl
    · rw [if_neg c]
      cases hr : sp_nr p mb nb 0 0 with
      | none => exact fun _ => rfl
      | some r =>
        obtain ⟨r1, r2, r3⟩ := sp_nr_ok x2 nb 0 0 r (by omega) (by omega) (fun q hq => by omega) (fun q q1 q2 => by omega) hr
        exact fun q => absurd q (zk_nd (by omega))
theorem zl_take (x : Int32) : zl_ok (sq_take x) := by
  intro A h
  have hW := zw_take x h.1
  obtain ⟨p, sl, lo, nb, nm, mb, ms, sc, bt⟩ := A
  obtain ⟨⟨⟨w1, w2, w3, w4, w5⟩, x1, x2, x3, x4, x5⟩, s, hs, hi⟩ := h
  have hi' := hi
  obtain ⟨a1, a2, a3, a4, a5⟩ := hi
  refine ⟨⟨hW, s, hs, ?_⟩, ?_⟩
  · rcases zn_ix2 x (n := nb) (by omega) with h | h | ⟨k, hk, rfl⟩
    · rw [sq_take_no (Or.inl h)]
      exact hi'
    · rw [sq_take_no (Or.inr h)]
      exact hi'
    · rw [sq_take_yes hk w4]
      by_cases c : mb k < p
      · rw [if_pos c]
        exact hi'
      · rw [if_neg c]
        refine ⟨a1, a2, fun j hj => ?_, a4, a5⟩
        by_cases g : j < k
        · rw [sp_del1 g]; exact a3 j (by omega)
        · rw [sp_del2 (by omega)]; exact a3 _ (by omega)
  · rcases zn_ix2 x (n := nb) (by omega) with h | h | ⟨k, hk, rfl⟩
    · rw [sq_take_no (Or.inl h)]
      exact fun _ => rfl
    · rw [sq_take_no (Or.inr h)]
      exact fun _ => rfl
    · rw [sq_take_yes hk w4]
      by_cases c : mb k < p
      · rw [if_pos c]
        exact fun _ => rfl
      · rw [if_neg c]
        exact fun q => absurd q (zk_nd (by omega))
theorem mz_ct_le {A : mz_A} (hW : zz_WF A) : mz_ct A ≤ 10 := by
  obtain ⟨p, sl, lo, nb, nm, mb, ms, sc, bt⟩ := A
  have := sp_ct_le (bt := bt) nb
  have h2 : nb ≤ 10 := hW.1.2.2.2.1
  show sp_ct bt nb ≤ 10
  omega
theorem mz_s0_iv {s : Nat} {A : mz_A} (h : zk_iv s A) : mz_s0 A = nI s := by
  obtain ⟨p, sl, lo, nb, nm, mb, ms, sc, bt⟩ := A
  exact h.1
theorem zl_pass (x : Int32) : zl_ok (sq_pass x) := by
  intro A h
  have hW := zw_pass x h.1
  obtain ⟨hWA, s, hs, hi⟩ := h
  have e0 := mz_s0_iv hi
  unfold sq_pass at hW ⊢
  by_cases c1 : x < 1 ∨ 999 < x
  · rw [if_pos c1]
    exact ⟨⟨hWA, s, hs, hi⟩, fun _ => rfl⟩
  · rw [if_neg c1] at hW ⊢
    obtain ⟨j, hj, rfl⟩ : ∃ j : Nat, j ≤ 999 ∧ x = nI j := by
      rcases zn_ix x (n := 999) (by omega) with q | q | q
      · refine absurd (Or.inl ?_) c1
        rw [Int32.lt_iff_toInt_lt] at q ⊢
        have e0 : (0 : Int32).toInt = 0 := by decide
        have e1 : (1 : Int32).toInt = 1 := by decide
        omega
      · exact absurd (Or.inr q) c1
      · exact q
    by_cases c2 : mz_s0 A + nI j ≤ 99999
    · rw [if_pos c2] at hW ⊢
      rw [zi_cl (by omega)] at hW ⊢
      have hsj : s + j ≤ 99999 := by
        rw [e0, nI_add] at c2
        exact (zi_le (b := 99999) (by omega) (by omega)).mp c2
      have hct := mz_ct_it j A
      have hle : mz_ct (sp_it j A).1 ≤ 10 := mz_ct_le hW
      exact ⟨⟨hW, s + j, hsj, zi_it j s A hWA hi⟩, fun q => absurd q (zk_nd (by omega))⟩
    · rw [if_neg c2]
      exact ⟨⟨hWA, s, hs, hi⟩, fun _ => rfl⟩

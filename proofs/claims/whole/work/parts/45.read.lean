/-! how a cast is read: the reference, and both loops -/
theorem zr_rnJ {T : Nat → Nat} {tl F most : Nat} (hmost : most ≤ 999) : ∀ (n v s g : Nat) (J : Nat → Nat → Int32), tl - s ≤ n → s < tl → v ≤ most → tl - (s + 1) ≤ g → zz_TR J T tl → J 0 7 = nI s → mi_X9_readsNumber_J110 (mi_X9_readsNumber_L66 F (n + 1)) F J (nI most) (nI v) = some (mc_u J 0 7 (nI (sp_more T tl most g v (s + 1)).2), nI (sp_more T tl most g v (s + 1)).1) := by
  intro n
  induction n with
  | zero => intro v s g J h1 h2; omega
  | succ n ih =>
    intro v s g J hn hs hv hg hT h7
    have htl := hT.2.2.1
    have hT2 : zz_TR (mc_u J 0 7 (nI (s + 1))) T tl := hT.keep (by rw [mz_u, if_neg (by omega)]) (mz_ux _ (by omega))
    have e7 : mc_u J 0 7 (nI (s + 1)) 0 7 = nI (s + 1) := by rw [mz_u, if_pos ⟨rfl, rfl⟩]
    have stop : ∀ y : Int32, mi_X9_readsNumber_L66 F (n + 1 + 1) (mc_u J 0 7 (nI (s + 1))) (nI most) y 0 = some (mc_u J 0 7 (nI (s + 1)), y) := by
      intro y
      show mi_X9_readsNumber_B66 _ F _ _ _ _ = _
      unfold mi_X9_readsNumber_B66
      rw [if_pos rfl]
    unfold mi_X9_readsNumber_J110
    rw [h7, show nI s + 1 = nI (s + 1) from nI_add s 1]
    simp only [mz_bn]
    rw [e7, hT2.1]
    by_cases c1 : v = 0
    · have : sp_more T tl most g v (s + 1) = (v, s + 1) := by
        cases g with
        | zero => rfl
        | succ g =>
          unfold sp_more
          rw [if_pos c1]
      rw [if_pos (show nI v ≤ 0 from zl_le (b := 0) (by omega) (by omega)), stop, this]
    · rw [if_neg (show ¬ nI v ≤ 0 from zl_nle (b := 0) (by omega) (by omega))]
      by_cases c2 : s + 1 < tl
      · obtain ⟨g, rfl⟩ : ∃ g', g = g' + 1 := ⟨g - 1, by omega⟩
        rw [if_neg (zl_nle c2 (by omega))]
        have e0 : (nI (s + 1) < 0 ∨ 60 ≤ (nI (s + 1)).toNatClampNeg) = False := by simp (disch := omega) only [zi_lit, zi_add, zi_mul, zi_le, zi_lt, zi_cl, Nat.not_lt_zero, zn_nle, zn_yle, zn_nlt, zn_ylt, if_false, if_true, or_false, false_or, mz_bn]
        simp only [e0, if_false]
        rw [zi_cl (show s + 1 < 2147483648 by omega), hT2.2.1 (s + 1) c2]
        have ht := hT.2.2.2 (s + 1) c2
        have hu : sp_more T tl most (g + 1) v (s + 1) = match sp_dg T tl (s + 1) with | none => (v, s + 1) | some d => if 10 * v + d ≤ most then sp_more T tl most g (10 * v + d) (s + 1 + 1) else (v, s + 1) := by
          show (if v = 0 then _ else _) = _
          rw [if_neg c1]
          cases sp_dg T tl (s + 1) <;> rfl
        rw [hu]
        by_cases c3 : 48 ≤ T (s + 1) ∧ T (s + 1) ≤ 57
        · have hd : sp_dg T tl (s + 1) = some (T (s + 1) - 48) := if_pos ⟨c2, c3.1, c3.2⟩
          rw [hd, show mi_X9_in (nI (T (s + 1))) 48 57 = 1 from zr_inN (lo := 48) (hi := 57) c3.1 c3.2 (by omega), if_neg (show ¬ (1 : Int32) = 0 by decide)]
          dsimp only
          have ev : 10 * nI v + nI (T (s + 1)) - 48 = nI (10 * v + (T (s + 1) - 48)) := by
            rw [show 10 * nI v = nI (10 * v) from pk_mul 10 v, nI_add, show nI (10 * v + T (s + 1)) - 48 = nI (10 * v + T (s + 1) - 48) from pk_sub (b := 48) (by omega)]
            exact congrArg nI (by omega)
          rw [ev]
          by_cases c4 : 10 * v + (T (s + 1) - 48) ≤ most
          · rw [if_neg (zl_nlt c4 (by omega)), if_pos c4]
            show mi_X9_readsNumber_B66 _ F _ _ _ _ = _
            unfold mi_X9_readsNumber_B66
            rw [if_neg (show ¬ (1 : Int32) = 0 by decide), if_neg (mz_enc_no (by omega)), e7]
            simp only [e0, if_false]
            rw [zi_cl (show s + 1 < 2147483648 by omega), hT2.2.1 (s + 1) c2, ev]
            rw [ih (10 * v + (T (s + 1) - 48)) (s + 1) g _ (by omega) c2 c4 (by omega) hT2 e7, mz_uu]
          · rw [if_pos (zl_lt (by omega) (by omega)), if_neg c4, stop]
        · have hd : sp_dg T tl (s + 1) = none := if_neg (fun q => c3 q.2)
          rw [hd, show mi_X9_in (nI (T (s + 1))) 48 57 = 0 from zr_in0 (by
            by_cases c4 : 48 ≤ T (s + 1)
            · exact Or.inr (zl_lt (a := 57) (by omega) (by omega))
            · exact Or.inl (zl_lt (b := 48) (by omega) (by omega))), if_pos rfl, stop]
      · have : sp_more T tl most g v (s + 1) = (v, s + 1) := by
          cases g with
          | zero => rfl
          | succ g =>
            unfold sp_more
            have : sp_dg T tl (s + 1) = none := if_neg (fun q => c2 q.1)
            rw [if_neg c1, this]
        rw [if_pos (zl_le (by omega) (by omega)), stop, this]
theorem zr_readsNumber {T : Nat → Nat} {tl F least most s : Nat} {J : Nat → Nat → Int32} (hF : 1100 ≤ F) (hl : least ≤ 1) (hmost : most ≤ 999) (hT : zz_TR J T tl) (h7 : J 0 7 = nI s) (hs : s ≤ 999) : mi_X9_readsNumber F J (nI least) (nI most) = (match sp_num T tl least most s with | none => some (J, -1005) | some q => some (mc_u J 0 7 (nI q.2), nI q.1)) := by
  have htl := hT.2.2.1
  obtain ⟨G, rfl⟩ : ∃ G, F = G + 1 := ⟨F - 1, by omega⟩
  have stop : mi_X9_readsNumber_L66 (G + 1) (G + 1) J (nI most) (-1005) 0 = some (J, -1005) := by
    show mi_X9_readsNumber_B66 _ _ _ _ _ _ = _
    unfold mi_X9_readsNumber_B66
    rw [if_pos rfl]
  unfold mi_X9_readsNumber
  rw [hT.1, h7]
  by_cases c2 : s < tl
  · have e0 : (nI s < 0 ∨ 60 ≤ (nI s).toNatClampNeg) = False := by simp (disch := omega) only [zi_lit, zi_add, zi_mul, zi_le, zi_lt, zi_cl, Nat.not_lt_zero, zn_nle, zn_yle, zn_nlt, zn_ylt, if_false, if_true, or_false, false_or, mz_bn]
    have ht := hT.2.2.2 s c2
    rw [if_neg (zl_nle c2 (by omega))]
    simp only [e0, if_false]
    rw [zi_cl (show s < 2147483648 by omega), hT.2.1 s c2]
    have J35 : ∀ lo : Nat, lo = 48 + least → mi_X9_readsNumber_J35 (G + 1) J (nI most) (-1005) (nI lo) (nI (T s)) = (match sp_num T tl least most s with | none => some (J, -1005) | some q => some (mc_u J 0 7 (nI q.2), nI q.1)) := by
      intro lo hlo
      unfold mi_X9_readsNumber_J35 sp_num
      rw [h7]
      simp only [e0, if_false]
      rw [zi_cl (show s < 2147483648 by omega), hT.2.1 s c2]
      by_cases c3 : 48 ≤ T s ∧ T s ≤ 57
      · have hd : sp_dg T tl s = some (T s - 48) := if_pos ⟨c2, c3.1, c3.2⟩
        rw [hd, show nI (T s) - 48 = nI (T s - 48) from pk_sub (b := 48) c3.1]
        dsimp only
        by_cases c5 : lo ≤ T s
        · rw [show mi_X9_in (nI (T s)) (nI lo) 57 = 1 from zr_inN (hi := 57) c5 c3.2 (by omega), if_neg (show ¬ (1 : Int32) = 0 by decide)]
          by_cases c4 : T s - 48 ≤ most
          · rw [if_neg (zl_nlt c4 (by omega)), if_neg (by omega)]
            show mi_X9_readsNumber_B66 _ _ _ _ _ _ = _
            unfold mi_X9_readsNumber_B66
            rw [if_neg (show ¬ (1 : Int32) = 0 by decide), if_pos rfl, h7]
            simp only [e0, if_false]
            rw [zi_cl (show s < 2147483648 by omega), hT.2.1 s c2, show nI (T s) - 48 = nI (T s - 48) from pk_sub (b := 48) c3.1]
            obtain ⟨H, rfl⟩ : ∃ H, G = H + 1 := ⟨G - 1, by omega⟩
            exact zr_rnJ hmost H (T s - 48) s 60 J (by omega) c2 c4 (by omega) hT h7
          · rw [if_pos (zl_lt (by omega) (by omega)), if_pos (by omega)]
            exact stop
        · rw [show mi_X9_in (nI (T s)) (nI lo) 57 = 0 from zr_in0 (Or.inl (zl_lt (by omega) (by omega))), if_pos rfl, if_pos (by omega)]
          exact stop
      · have hd : sp_dg T tl s = none := if_neg (fun q => c3 q.2)
        rw [hd, show mi_X9_in (nI (T s)) (nI lo) 57 = 0 from zr_in0 (by
          by_cases c4 : 48 ≤ T s
          · exact Or.inr (zl_lt (a := 57) (by omega) (by omega))
          · exact Or.inl (zl_lt (by omega) (by omega))), if_pos rfl]
        exact stop
    rcases (show least = 0 ∨ least = 1 by omega) with rfl | rfl
    · rw [if_pos (show nI 0 = 0 from rfl)]
      exact J35 48 rfl
    · rw [if_neg (show ¬ nI 1 = 0 by decide)]
      exact J35 49 rfl
  · rw [if_pos (zl_le (by omega) (by omega)), stop]
    unfold sp_num
    have : sp_dg T tl s = none := if_neg (fun q => c2 q.1)
    rw [this]
theorem zr_part {T : Nat → Nat} {tl F s : Nat} {J : Nat → Nat → Int32} (hF : 1100 ≤ F) (hT : zz_TR J T tl) (h7 : J 0 7 = nI s) (hs : s ≤ 99) : ∃ J1, mi_X9_part F J = some (J1, match (sp_thing T tl s).1 with | none => 0 | some t => nI t.1) ∧ (∀ x, x ≠ 0 → J1 x = J x) ∧ (∀ j, j ≠ 7 → j ≠ 8 → J1 0 j = J 0 j) ∧ J1 0 7 = nI (sp_thing T tl s).2 ∧ ∀ t, (sp_thing T tl s).1 = some t → J1 0 8 = nI t.2 := by
  have htl := hT.2.2.1
  have hc := sp_ch_le (s := s) hT.2.2.2
  have hlt : sp_ch T tl s ≠ 0 → s < tl := fun q => by
    by_cases c : s < tl
    · exact c
    · exact absurd (if_neg c) q
  have ne : ∀ a : Nat, a ≤ 200 → sp_ch T tl s ≠ a → ¬ nI (sp_ch T tl s) = nI a := fun a ha q e => q ((nI_eq (by omega) (by omega)).mp e)
  have hp : mi_X9_part F J = mi_X9_part_J24 F J (nI (sp_ch T tl s)) := by
    unfold mi_X9_part sp_ch
    rw [hT.1, h7]
    by_cases c : s < tl
    · have e0 : (nI s < 0 ∨ 60 ≤ (nI s).toNatClampNeg) = False := by simp (disch := omega) only [zi_lit, zi_add, zi_mul, zi_le, zi_lt, zi_cl, Nat.not_lt_zero, zn_nle, zn_yle, zn_nlt, zn_ylt, if_false, if_true, or_false, false_or, mz_bn]
      rw [if_neg (zl_nle c (by omega)), if_pos c]
      simp only [e0, if_false]
      rw [zi_cl (show s < 2147483648 by omega), hT.2.1 s c]
    · rw [if_pos (zl_le (by omega) (by omega)), if_neg c]
      rfl
  rw [hp]
  unfold mi_X9_part_J24
  simp only [mz_bn]
  have e7 : mc_u J 0 8 0 0 7 = nI s := by rw [mz_u, if_neg (by omega)]; exact h7
  rw [e7, show nI s + 1 = nI (s + 1) from nI_add s 1]
  generalize hJ2 : mc_u (mc_u J 0 8 0) 0 7 (nI (s + 1)) = J2
  have hx : ∀ x, x ≠ 0 → J2 x = J x := fun x hx => by rw [← hJ2, mz_ux _ hx, mz_ux _ hx]
  have h0 : ∀ j, j ≠ 7 → j ≠ 8 → J2 0 j = J 0 j := fun j j1 j2 => by rw [← hJ2, mz_u, if_neg (fun q => j1 q.2), mz_u, if_neg (fun q => j2 q.2)]
  have h27 : J2 0 7 = nI (s + 1) := by rw [← hJ2, mz_u, if_pos ⟨rfl, rfl⟩]
  have h28 : J2 0 8 = 0 := by rw [← hJ2, mz_u, if_neg (by omega), mz_u, if_pos ⟨rfl, rfl⟩]
  have hT2 : zz_TR J2 T tl := hT.keep (h0 4 (by omega) (by omega)) (hx 2 (by omega))
  generalize hch : sp_ch T tl s = ch at hc hlt ne ⊢
  have j160 : ∀ (J3 : Nat → Nat → Int32), mi_X9_part_J160 F J3 (nI ch) = if J3 0 8 = -1005 then some (J3, 0) else some (J3, nI ch) := fun J3 => rfl
  have num : ∀ least most : Nat, least ≤ 1 → most ≤ 999 → s < tl → (sp_thing T tl s = match sp_num T tl least most (s + 1) with | none => (none, s + 1) | some q => (some (ch, q.1), q.2)) → ∃ J1, (mc_ob2 (mi_X9_readsNumber F J2 (nI least) (nI most)) fun I8 r9 => mi_X9_part_J160 F (mc_u I8 0 8 r9) (nI ch)) = some (J1, match (sp_thing T tl s).1 with | none => 0 | some t => nI t.1) ∧ (∀ x, x ≠ 0 → J1 x = J x) ∧ (∀ j, j ≠ 7 → j ≠ 8 → J1 0 j = J 0 j) ∧ J1 0 7 = nI (sp_thing T tl s).2 ∧ ∀ t, (sp_thing T tl s).1 = some t → J1 0 8 = nI t.2 := by
    intro least most l1 l2 hst heq
    rw [zr_readsNumber hF l1 l2 hT2 h27 (by omega), heq]
    cases hq : sp_num T tl least most (s + 1) with
    | none =>
      dsimp only
      rw [mz_ob2, j160, show mc_u J2 0 8 (-1005) 0 8 = -1005 by rw [mz_u, if_pos ⟨rfl, rfl⟩], if_pos rfl]
      refine ⟨_, rfl, fun x x1 => by rw [mz_ux _ x1]; exact hx x x1, fun j j1 j2 => by rw [mz_u, if_neg (fun q => j2 q.2)]; exact h0 j j1 j2, by rw [mz_u, if_neg (by omega)]; exact h27, fun t ht => by cases ht⟩
    | some q =>
      have hq9 := sp_num_ok hq
      dsimp only
      rw [mz_ob2, j160, show mc_u (mc_u J2 0 7 (nI q.2)) 0 8 (nI q.1) 0 8 = nI q.1 by rw [mz_u, if_pos ⟨rfl, rfl⟩], if_neg (mz_enc_no (by omega))]
      refine ⟨_, rfl, fun x x1 => by rw [mz_ux _ x1, mz_ux _ x1]; exact hx x x1, fun j j1 j2 => by rw [mz_u, if_neg (fun q => j2 q.2), mz_u, if_neg (fun q => j1 q.2)]; exact h0 j j1 j2, by rw [mz_u, if_neg (by omega), mz_u, if_pos ⟨rfl, rfl⟩], fun t ht => ?_⟩
      cases ht
      rw [mz_u, if_pos ⟨rfl, rfl⟩]
  have one : (sp_thing T tl s = (some (ch, 0), s + 1)) → ∃ J1, mi_X9_part_J160 F J2 (nI ch) = some (J1, match (sp_thing T tl s).1 with | none => 0 | some t => nI t.1) ∧ (∀ x, x ≠ 0 → J1 x = J x) ∧ (∀ j, j ≠ 7 → j ≠ 8 → J1 0 j = J 0 j) ∧ J1 0 7 = nI (sp_thing T tl s).2 ∧ ∀ t, (sp_thing T tl s).1 = some t → J1 0 8 = nI t.2 := by
    intro heq
    rw [heq, j160, h28, if_neg (by decide)]
    exact ⟨J2, rfl, hx, h0, h27, fun t ht => by cases ht; exact h28⟩
  by_cases k33 : ch = 33
  · subst k33
    rw [if_pos (show nI 33 = 33 from rfl)]
    exact one (by unfold sp_thing; rw [hch, if_pos (Or.inl rfl)])
  · rw [if_neg (show ¬ nI ch = 33 from ne 33 (by omega) k33)]
    by_cases k43 : ch = 43
    · subst k43
      rw [if_pos (show nI 43 = 43 from rfl)]
      exact num 1 999 (by omega) (by omega) (hlt (by omega)) (by unfold sp_thing; rw [hch, if_neg (by omega), if_pos (Or.inl rfl)]; cases sp_num T tl 1 999 (s + 1) <;> rfl)
    · rw [if_neg (show ¬ nI ch = 43 from ne 43 (by omega) k43)]
      by_cases k45 : ch = 45
      · subst k45
        rw [if_pos (show nI 45 = 45 from rfl)]
        exact num 1 999 (by omega) (by omega) (hlt (by omega)) (by unfold sp_thing; rw [hch, if_neg (by omega), if_pos (Or.inr (Or.inl rfl))]; cases sp_num T tl 1 999 (s + 1) <;> rfl)
      · rw [if_neg (show ¬ nI ch = 45 from ne 45 (by omega) k45)]
        by_cases k46 : ch = 46
        · subst k46
          rw [if_pos (show nI 46 = 46 from rfl)]
          exact num 1 999 (by omega) (by omega) (hlt (by omega)) (by unfold sp_thing; rw [hch, if_neg (by omega), if_pos (Or.inr (Or.inr rfl))]; cases sp_num T tl 1 999 (s + 1) <;> rfl)
        · rw [if_neg (show ¬ nI ch = 46 from ne 46 (by omega) k46)]
          by_cases k47 : ch = 47
          · subst k47
            rw [if_pos (show nI 47 = 47 from rfl)]
            exact num 0 6 (by omega) (by omega) (hlt (by omega)) (by unfold sp_thing; rw [hch, if_neg (by omega), if_neg (by omega), if_pos rfl]; cases sp_num T tl 0 6 (s + 1) <;> rfl)
          · rw [if_neg (show ¬ nI ch = 47 from ne 47 (by omega) k47)]
            by_cases k98 : ch = 98
            · subst k98
              rw [if_pos (show nI 98 = 98 from rfl)]
              exact one (by unfold sp_thing; rw [hch, if_pos (Or.inr (Or.inl rfl))])
            · rw [if_neg (show ¬ nI ch = 98 from ne 98 (by omega) k98)]
              by_cases k109 : ch = 109
              · subst k109
                rw [if_pos (show nI 109 = 109 from rfl)]
                exact one (by unfold sp_thing; rw [hch, if_pos (Or.inr (Or.inr rfl))])
              · rw [if_neg (show ¬ nI ch = 109 from ne 109 (by omega) k109)]
                have heq : sp_thing T tl s = (none, s) := by
                  unfold sp_thing
                  rw [hch, if_neg (by omega), if_neg (by omega), if_neg k47]
                rw [heq]
                exact ⟨_, rfl, fun x x1 => mz_ux _ x1, fun j j1 j2 => by rw [mz_u, if_neg (fun q => j2 q.2)], e7, fun t ht => by cases ht⟩
def sp_rd (T : Nat → Nat) (tl : Nat) : Nat → Nat → Option Nat × List (Nat × Nat)
  | 0, s => (some s, [])
  | m + 1, s => match sp_thing T tl s with
    | (none, s1) => (some s1, [])
    | (some t, s1) => if s1 < tl then (if T s1 = 59 then ((sp_rd T tl m (s1 + 1)).1, t :: (sp_rd T tl m (s1 + 1)).2) else (some s1, [t])) else (none, [t])
theorem sp_thing_le {T : Nat → Nat} {tl s : Nat} (hs : s ≤ tl) : (sp_thing T tl s).2 ≤ tl := by
  cases h : sp_thing T tl s with
  | mk o s1 =>
    cases o with
    | some t => exact (sp_thing_ok h).2.2.1
    | none =>
      dsimp only
      have hlt : sp_ch T tl s ≠ 0 → s < tl := fun q => by
        by_cases c : s < tl
        · exact c
        · exact absurd (if_neg c) q
      unfold sp_thing at h
      by_cases c1 : sp_ch T tl s = 33 ∨ sp_ch T tl s = 98 ∨ sp_ch T tl s = 109
      · rw [if_pos c1] at h
        cases h
      · rw [if_neg c1] at h
        by_cases c2 : sp_ch T tl s = 43 ∨ sp_ch T tl s = 45 ∨ sp_ch T tl s = 46
        · rw [if_pos c2] at h
          have := hlt (by omega)
          cases hq : sp_num T tl 1 999 (s + 1) with
          | none =>
            rw [hq] at h
            cases h
            omega
          | some q =>
            rw [hq] at h
            cases h
        · rw [if_neg c2] at h
          by_cases c3 : sp_ch T tl s = 47
          · rw [if_pos c3] at h
            have := hlt (by omega)
            cases hq : sp_num T tl 0 6 (s + 1) with
            | none =>
              rw [hq] at h
              cases h
              omega
            | some q =>
              rw [hq] at h
              cases h
          · rw [if_neg c3] at h
            cases h
            exact hs
theorem sp_rd_ok {T : Nat → Nat} {tl : Nat} : ∀ (m s : Nat), s ≤ tl → (∀ f, (sp_rd T tl m s).1 = some f → f ≤ tl) ∧ (sp_rd T tl m s).2.length + s ≤ tl ∧ ((sp_rd T tl m s).1 = none → (sp_rd T tl m s).2 ≠ []) := by
  intro m
  induction m with
  | zero =>
    intro s hs
    refine ⟨fun f hf => ?_, ?_, fun q => ?_⟩
    · cases hf
      exact hs
    · show 0 + s ≤ tl
      omega
    · cases q
  | succ m ih =>
    intro s hs
    have hle := sp_thing_le (T := T) hs
    unfold sp_rd
    cases h : sp_thing T tl s with
    | mk o s1 =>
      rw [h] at hle
      dsimp only at hle
      cases o with
      | none =>
        dsimp only
        refine ⟨fun f hf => ?_, ?_, fun q => ?_⟩
        · cases hf
          exact hle
        · show 0 + s ≤ tl
          omega
        · cases q
      | some t =>
        have hok := sp_thing_ok h
        dsimp only
        by_cases c1 : s1 < tl
        · rw [if_pos c1]
          by_cases c2 : T s1 = 59
          · rw [if_pos c2]
            obtain ⟨a, b, c⟩ := ih (s1 + 1) (by omega)
            refine ⟨a, ?_, fun _ q => by cases q⟩
            rw [List.length_cons]
            omega
          · rw [if_neg c2]
            refine ⟨fun f hf => ?_, ?_, fun q => ?_⟩
            · cases hf
              omega
            · show 1 + s ≤ tl
              omega
            · cases q
        · rw [if_neg c1]
          refine ⟨fun f hf => ?_, ?_, fun _ q => by cases q⟩
          · cases hf
          · show 1 + s ≤ tl
            omega
def mz_rc : Option Nat → Int32
  | none => -1
  | some f => nI f
theorem zc_rdL {T : Nat → Nat} {tl F : Nat} (hF : 1100 ≤ F) : ∀ (m n i s k : Nat) (I : Nat → Nat → Int32), i + m = 61 → m < n → zz_TX I T tl → I 149 3 = nI s → I 149 2 = nI k → k ≤ s → s ≤ tl → ∃ I1, mi_X2_read_L12 F n I (nI i) = some (I1, mz_rc (sp_rd T tl m s).1) ∧ (∀ x, x < 149 → I1 x = I x) ∧ ((sp_rd T tl m s).1 = none → I1 149 2 = nI (k + (sp_rd T tl m s).2.length) ∧ (∀ j, j < k → I1 150 j = I 150 j ∧ I1 151 j = I 151 j) ∧ ∀ q t, (sp_rd T tl m s).2[q]? = some t → I1 150 (k + q) = nI t.1 ∧ I1 151 (k + q) = nI t.2) := by
  intro m
  induction m with
  | zero =>
    intro n i s k I him hmn hT h3 h2 hks hs
    obtain ⟨n, rfl⟩ : ∃ n', n = n' + 1 := ⟨n - 1, by omega⟩
    show ∃ I1, mi_X2_read_B12 _ F I _ = _ ∧ _
    unfold mi_X2_read_B12
    rw [if_pos (show (60 : Int32) < nI i from zl_lt (a := 60) (by omega) (by omega)), h3]
    exact ⟨I, rfl, fun _ _ => rfl, fun q => by cases q⟩
  | succ m ih =>
    intro n i s k I him hmn hT h3 h2 hks hs
    have htl := hT.2.2.1
    obtain ⟨n, rfl⟩ : ∃ n', n = n' + 1 := ⟨n - 1, by omega⟩
    show ∃ I1, mi_X2_read_B12 _ F I _ = _ ∧ _
    unfold mi_X2_read_B12
    rw [if_neg (show ¬ (60 : Int32) < nI i from zl_nlt (a := 60) (by omega) (by omega)), zc_readThing hF hT h3 h2 hks hs]
    unfold sp_rd
    cases h : sp_thing T tl s with
    | mk o s1 =>
      cases o with
      | none =>
        dsimp only
        rw [mz_ob2, if_pos rfl, show mc_u I 149 3 (nI s1) 149 3 = nI s1 by rw [mz_u, if_pos ⟨rfl, rfl⟩]]
        exact ⟨_, rfl, fun x hx => mz_ux _ (by omega), fun q => by cases q⟩
      | some t =>
        have hok := sp_thing_ok h
        dsimp only
        rw [mz_ob2, if_neg (show ¬ (1 : Int32) = 0 by decide)]
        generalize hI2 : mc_u (mc_u (mc_u (mc_u I 149 3 (nI s1)) 150 k (nI t.1)) 151 k (nI t.2)) 149 2 (nI (k + 1)) = I2
        have o2 : ∀ x, x < 149 → I2 x = I x := fun x hx => by rw [← hI2, mz_ux _ (by omega), mz_ux _ (by omega), mz_ux _ (by omega), mz_ux _ (by omega)]
        have e3 : I2 149 3 = nI s1 := by rw [← hI2, mz_u, if_neg (by omega), mz_u, if_neg (by omega), mz_u, if_neg (by omega), mz_u, if_pos ⟨rfl, rfl⟩]
        have e2 : I2 149 2 = nI (k + 1) := by rw [← hI2, mz_u, if_pos ⟨rfl, rfl⟩]
        have ek : I2 150 k = nI t.1 ∧ I2 151 k = nI t.2 := by
          refine ⟨?_, ?_⟩
          · rw [← hI2, mz_u, if_neg (by omega), mz_u, if_neg (by omega), mz_u, if_pos ⟨rfl, rfl⟩]
          · rw [← hI2, mz_u, if_neg (by omega), mz_u, if_pos ⟨rfl, rfl⟩]
        have ej : ∀ j, j < k → I2 150 j = I 150 j ∧ I2 151 j = I 151 j := fun j hj => by
          refine ⟨?_, ?_⟩
          · rw [← hI2, mz_u, if_neg (by omega), mz_u, if_neg (by omega), mz_u, if_neg (by omega), mz_u, if_neg (by omega)]
          · rw [← hI2, mz_u, if_neg (by omega), mz_u, if_neg (by omega), mz_u, if_neg (by omega), mz_u, if_neg (by omega)]
        have hT2 : zz_TX I2 T tl := hT.keep (o2 _ (by omega)) (o2 _ (by omega))
        rw [e3, hT2.1]
        have one : ∀ q (u : Nat × Nat), ([t] : List (Nat × Nat))[q]? = some u → I2 150 (k + q) = nI u.1 ∧ I2 151 (k + q) = nI u.2 := fun q u hu => by
          cases q with
          | zero =>
            cases hu
            exact ek
          | succ q => cases hu
        by_cases c1 : s1 < tl
        · rw [if_pos (zl_lt c1 (by omega)), if_pos c1, zc_at hT2 (by omega), mz_ob]
          have hch : sp_ch T tl s1 = T s1 := if_pos c1
          have ht1 := hT.2.2.2 s1 c1
          rw [hch]
          by_cases c2 : T s1 = 59
          · rw [if_pos (show nI (T s1) = 59 by rw [c2]; rfl), if_pos c2]
            simp only [mz_bn]
            rw [show nI s1 + 1 = nI (s1 + 1) from nI_add s1 1, show nI i + 1 = nI (i + 1) from nI_add i 1]
            obtain ⟨I1, a1, a2, a3⟩ := ih n (i + 1) (s1 + 1) (k + 1) (mc_u I2 149 3 (nI (s1 + 1))) (by omega) (by omega) (hT2.keep (mz_ux _ (by omega)) (mz_ux _ (by omega))) (by rw [mz_u, if_pos ⟨rfl, rfl⟩]) (by rw [mz_u, if_neg (by omega)]; exact e2) (by omega) (by omega)
            refine ⟨I1, a1, fun x hx => by rw [a2 x hx, mz_ux _ (by omega), o2 x hx], fun hnone => ?_⟩
            obtain ⟨b1, b2, b3⟩ := a3 hnone
            refine ⟨?_, fun j hj => ?_, fun q u hu => ?_⟩
            · rw [b1, List.length_cons, show k + 1 + (sp_rd T tl m (s1 + 1)).2.length = k + ((sp_rd T tl m (s1 + 1)).2.length + 1) by omega]
            · have := b2 j (by omega)
              rw [this.1, this.2, mz_u, if_neg (by omega), mz_u, if_neg (by omega)]
              exact ej j hj
            · cases q with
              | zero =>
                cases hu
                have := b2 k (by omega)
                rw [Nat.add_zero, this.1, this.2, mz_u, if_neg (by omega), mz_u, if_neg (by omega)]
                exact ek
              | succ q =>
                rw [List.getElem?_cons_succ] at hu
                have := b3 q u hu
                rw [show k + (q + 1) = k + 1 + q by omega]
                exact this
          · rw [if_neg (show ¬ nI (T s1) = 59 from fun q => c2 ((nI_eq (b := 59) (by omega) (by omega)).mp q)), if_neg c2]
            exact ⟨I2, rfl, o2, fun q => by cases q⟩
        · rw [if_neg (zl_nlt (by omega) (by omega)), if_neg c1]
          exact ⟨I2, rfl, o2, fun _ => ⟨e2, ej, one⟩⟩
def mz_rf : Option Nat → Int32
  | none => -1005
  | some f => nI f
theorem zr_ftL {T : Nat → Nat} {tl F : Nat} (hF : 1100 ≤ F) : ∀ (n m s : Nat) (J : Nat → Nat → Int32), tl - s + 1 ≤ m → m ≤ n → zz_TR J T tl → J 0 7 = nI s → s ≤ tl → ∃ J1, mi_X9_fault_L5 F n J = some (J1, mz_rf (sp_rd T tl m s).1) ∧ (∀ x, x ≠ 0 → J1 x = J x) ∧ (∀ j, j ≠ 7 → j ≠ 8 → J1 0 j = J 0 j) := by
  intro n
  induction n with
  | zero => intro m s J h1 h2; omega
  | succ n ih =>
    intro m s J hm hmn hT h7 hs
    have htl := hT.2.2.1
    obtain ⟨m, rfl⟩ : ∃ m', m = m' + 1 := ⟨m - 1, by omega⟩
    show ∃ J1, mi_X9_fault_B5 _ F J = _ ∧ _
    unfold mi_X9_fault_B5
    obtain ⟨J2, a1, a2, a3, a4, a5⟩ := zr_part hF hT h7 (by omega)
    have hle := sp_thing_le (T := T) hs
    rw [a1, mz_ob2]
    unfold sp_rd
    cases h : sp_thing T tl s with
    | mk o s1 =>
      rw [h] at hle a4
      dsimp only at hle a4
      cases o with
      | none =>
        dsimp only
        rw [if_pos rfl, a4]
        exact ⟨J2, rfl, a2, a3⟩
      | some t =>
        have hok := sp_thing_ok h
        have hT2 : zz_TR J2 T tl := hT.keep (a3 4 (by omega) (by omega)) (a2 2 (by omega))
        dsimp only
        rw [if_neg (show ¬ nI t.1 = 0 from fun q => by have := (nI_eq (b := 0) (by omega) (by omega)).mp q; omega), a4, hT2.1]
        by_cases c1 : s1 < tl
        · have e0 : (nI s1 < 0 ∨ 60 ≤ (nI s1).toNatClampNeg) = False := by simp (disch := omega) only [zi_lit, zi_add, zi_mul, zi_le, zi_lt, zi_cl, Nat.not_lt_zero, zn_nle, zn_yle, zn_nlt, zn_ylt, if_false, if_true, or_false, false_or, mz_bn]
          have ht1 := hT.2.2.2 s1 c1
          rw [if_neg (show ¬ nI s1 = nI tl from fun q => by have := (nI_eq (by omega) (by omega)).mp q; omega), if_pos c1]
          simp only [e0, if_false]
          rw [zi_cl (show s1 < 2147483648 by omega), hT2.2.1 s1 c1]
          by_cases c2 : T s1 = 59
          · rw [if_pos (show nI (T s1) = 59 by rw [c2]; rfl), if_pos c2]
            simp only [mz_bn]
            rw [show nI s1 + 1 = nI (s1 + 1) from nI_add s1 1]
            obtain ⟨J1, b1, b2, b3⟩ := ih m (s1 + 1) (mc_u J2 0 7 (nI (s1 + 1))) (by omega) (by omega) (hT2.keep (by rw [mz_u, if_neg (by omega)]) (mz_ux _ (by omega))) (by rw [mz_u, if_pos ⟨rfl, rfl⟩]) (by omega)
            exact ⟨J1, b1, fun x hx => by rw [b2 x hx, mz_ux _ hx, a2 x hx], fun j j1 j2 => by rw [b3 j j1 j2, mz_u, if_neg (fun q => j1 q.2), a3 j j1 j2]⟩
          · rw [if_neg (show ¬ nI (T s1) = 59 from fun q => c2 ((nI_eq (b := 59) (by omega) (by omega)).mp q)), if_neg c2]
            exact ⟨J2, rfl, a2, a3⟩
        · rw [if_pos (show nI s1 = nI tl by rw [show s1 = tl by omega]), if_neg c1]
          exact ⟨J2, rfl, a2, a3⟩

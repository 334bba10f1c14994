/-! bottles: what the law asks of each bottle holds -/
def zk_T (k24 : (Nat → Nat → Int32) → (Nat → Nat → Option Nat) → Int32 → Int32 → Int32 → Int32 → Int32 → Int32 → Int32 → Option (Int32)) (F : Nat) (I : Nat → Nat → Int32) (R : Nat → Nat → Option Nat) (v1 : Int32) (v2 : Int32) (v3 : Int32) (v4 : Int32) (v5 : Int32) (v6 : Int32) (v7 : Int32) (v10 : Int32) : Option (Int32) :=
    if v10 = 0 then
      mc_bn ((v7 + 1)) fun x46 =>
      k24 I R v1 v2 v3 v4 v5 v6 x46
    else
      mc_ob (mi_X8_bottle I R v7 10) fun r47 =>
      mc_ob (mi_X8_bottle I R v7 11) fun r49 =>
      if r47 ≤ r49 then
        mc_ob (mi_X8_bottle I R v7 11) fun r52 =>
        mi_L_bottles_J303 k24 F I R v1 v2 v3 v4 v5 v6 v7 r47 (r52 - r47)
      else
        mc_ob (mi_X8_bottle I R v7 11) fun r91 =>
        mi_L_bottles_J303 k24 F I R v1 v2 v3 v4 v5 v6 v7 r47 (r47 - r91)
theorem zk_eight {F : Nat} {I : Nat → Nat → Int32} {R : Nat → Nat → Option Nat} {k24 : (Nat → Nat → Int32) → (Nat → Nat → Option Nat) → Int32 → Int32 → Int32 → Int32 → Int32 → Int32 → Int32 → Option (Int32)} {v1 v2 v3 v4 v5 v6 v7 v10 : Int32} (h : ∀ j, 6 ≤ j → j ≤ 12 → ∃ r, mi_X8_bottle I R v7 (nI j) = some r ∧ ((r = -1005 ∧ v10 = 0) ∨ (¬ r = -1005 ∧ v10 = 1))) : ∀ (n d j : Nat), j + d = 13 → 6 ≤ j → d < n → mi_L_bottles_L211 k24 F n I R v1 v2 v3 v4 v5 v6 v7 v10 (nI j) = zk_T k24 F I R v1 v2 v3 v4 v5 v6 v7 v10 := by
  intro n
  induction n with
  | zero => intro d j _ _ q; omega
  | succ n ih =>
    intro d j hjd hj hdn
    show mi_L_bottles_B211 k24 _ F I R _ _ _ _ _ _ _ _ _ = _
    unfold mi_L_bottles_B211
    cases d with
    | zero =>
      rw [if_pos (show 13 ≤ nI j from zl_le (a := 13) (by omega) (by omega))]
      rfl
    | succ d =>
      rw [if_neg (show ¬ 13 ≤ nI j from zl_nle (a := 13) (by omega) (by omega))]
      obtain ⟨r, e, hr⟩ := h j hj (by omega)
      rw [e, mz_ob]
      unfold mi_L_bottles_J239
      simp only [mz_bn]
      rw [show nI j + 1 = nI (j + 1) from nI_add j 1]
      rcases hr with ⟨h1, h2⟩ | ⟨h1, h2⟩
      · rw [if_pos h1, h2, if_neg zk_01]
        have := ih d (j + 1) (by omega) (by omega) (by omega)
        rw [h2] at this
        exact this
      · rw [if_neg h1, h2, if_neg zk_10]
        have := ih d (j + 1) (by omega) (by omega) (by omega)
        rw [h2] at this
        exact this
theorem zk_n5 {n : Nat} (h : n ≤ 99999) : ¬ nI n = -1005 := mz_enc_no h
theorem zk_step {F ns d i p sl lo nb nm : Nat} {mb ms : Nat → Nat} {sc : Nat → Int32} {bt : Nat → Nat → Int32} {I : Nat → Nat → Int32} {R : Nat → Nat → Option Nat} {AH : Nat → mz_A} {k24 : (Nat → Nat → Int32) → (Nat → Nat → Option Nat) → Int32 → Int32 → Int32 → Int32 → Int32 → Int32 → Int32 → Option (Int32)} {u v W : Int32} (hF : 1100 ≤ F) (hR : zl_R I R (p, sl, lo, nb, nm, mb, ms, sc, bt) ns AH) (hid : i + (d + 1) = nb) (hW : sp_wo bt (d + 1) i u v = W)
    (hk : ∀ u1 v1, sp_wo bt d (i + 1) u1 v1 = W → k24 I R (nI nb) (nI (sp_wt p mb (i + 1))) (nI (sp_ct bt (i + 1))) (nI (sp_db (sc 11) bt (i + 1))) u1 v1 (nI (i + 1)) = some 1) :
    mi_L_bottles_B24 k24 F I R (nI nb) (nI (sp_wt p mb i)) (nI (sp_ct bt i)) (nI (sp_db (sc 11) bt i)) u v (nI i) = some 1 := by
  obtain ⟨⟨⟨w1, w2, w3, w4, w5⟩, x1, x2, x3, x4, x5⟩, s, hs, a1, a2, a3, a4, a5⟩ := id hR.ok
  have hi : i < nb := by omega
  have hmk := x1 i hi
  obtain ⟨t1, t2, t4⟩ := x5 i hi
  obtain ⟨z1, ⟨ct, z2, z2'⟩, z3⟩ := a3 i hi
  have hct := sp_ct_le (bt := bt) i
  have bb : ∀ j, j ≤ 13 → mi_X8_bottle I R (nI i) (nI j) = some (sv_bot (p, sl, lo, nb, nm, mb, ms, sc, bt) i j) := fun j hj => hR.bottle hi hj
  have c1 := hR.count hF 1 (by omega)
  have e1 : nI i + 1 = nI (i + 1) := nI_add i 1
  unfold mi_L_bottles_B24
  rw [if_neg (zl_nle hi (by omega)), show mi_X8_bottle I R (nI i) 0 = some (nI (mb i)) from bb 0 (by omega), mz_ob, show mi_X8_count F I R 1 = some (nI p) from c1, mz_ob]
  -- the tail, for an open and for a shut bottle
  have tail : ∀ v10 : Int32, v10 = bt i 1 → mi_L_bottles_J190 k24 F I R (nI nb) (nI (sp_wt p mb (i + 1))) (nI (sp_ct bt (i + 1))) (nI (sp_db (sc 11) bt i)) u v (nI i) v10 = some 1 := by
    intro v10 hv
    unfold mi_L_bottles_J190
    by_cases co : bt i 1 = 0
    · obtain ⟨y3, y4⟩ := z1 co
      rw [hv, co, if_pos rfl, show mi_X8_bottle I R (nI i) 5 = some (bt i 3) from bb 5 (by omega), mz_ob, y3, if_pos rfl]
      rw [show (6 : Int32) = nI 6 from rfl, zk_eight (v10 := 0) (fun j j1 j2 => ⟨-1005, by
        rw [bb j (by omega)]
        rcases (show j = 6 ∨ j = 7 ∨ j = 8 ∨ j = 9 ∨ j = 10 ∨ j = 11 ∨ j = 12 by omega) with rfl | rfl | rfl | rfl | rfl | rfl | rfl <;> exact congrArg some (if_pos co), Or.inl ⟨rfl, rfl⟩⟩) F 7 6 (by omega) (by omega) (by omega)]
      unfold zk_T
      rw [if_pos rfl]
      simp only [mz_bn]
      rw [e1]
      have h1 : sp_db (sc 11) bt (i + 1) = sp_db (sc 11) bt i := by
        show sp_db (sc 11) bt i + _ = _
        rw [if_pos co]
        rfl
      have h2 : sp_wo bt (d + 1) i u v = sp_wo bt d (i + 1) u v := if_pos co
      have h3 := hk u v (by rw [← h2]; exact hW)
      rw [h1] at h3
      exact h3
    · have co1 := t1.resolve_left co
      obtain ⟨z4, z5, uu, m, e, l, q1, q2, q3, q4, q5, q6, q7, q8, q9, q10⟩ := z3 co1
      have hpair : 10 * (bt i 7 - bt i 6) = nI (10 * e) := by
        rw [q6, Int32.add_comm, Int32.add_sub_cancel]
        exact zi_mul 10 e
      have hdf : sp_df (bt i) = nI (m - 10 * e) := by
        unfold sp_df mi_X9_size
        rw [hpair, q4]
        by_cases he : 10 * e = m
        · rw [he, Int32.sub_self, if_pos (by decide), Nat.sub_self]
          rfl
        · have h1 : (nI (10 * e) - nI m).toInt = (10 * e : Nat) - (m : Int) := zn_subT (by omega) (by omega)
          have h2 : ¬ (0 : Int32) ≤ nI (10 * e) - nI m := by
            rw [Int32.le_iff_toInt_le, h1, show (0 : Int32).toInt = 0 by decide]
            omega
          rw [if_neg h2, Int32.neg_sub, zi_sub q5]
      have hsub : nI m - nI (10 * e) = nI (m - 10 * e) := zi_sub q5
      have b12 : mi_X8_bottle I R (nI i) 12 = some (if sp_df (bt i) ≤ sc 11 then 0 else 1) := (bb 12 (by omega)).trans (congrArg some (if_neg co))
      have b11 : mi_X8_bottle I R (nI i) 11 = some (nI m) := (bb 11 (by omega)).trans (congrArg some ((if_neg co).trans q4))
      have b10 : mi_X8_bottle I R (nI i) 10 = some (nI (10 * e)) := (bb 10 (by omega)).trans (congrArg some ((if_neg co).trans hpair))
      have b8 : mi_X8_bottle I R (nI i) 8 = some (bt i 7) := (bb 8 (by omega)).trans (congrArg some (if_neg co))
      have b7 : mi_X8_bottle I R (nI i) 7 = some (bt i 6) := (bb 7 (by omega)).trans (congrArg some (if_neg co))
      have b6 : mi_X8_bottle I R (nI i) 6 = some (nI uu) := (bb 6 (by omega)).trans (congrArg some ((if_neg co).trans q2))
      have b5 : mi_X8_bottle I R (nI i) 5 = some (bt i 3) := bb 5 (by omega)
      have b4 : mi_X8_bottle I R (nI i) 4 = some (bt i 2) := bb 4 (by omega)
      have b13 : mi_X8_bottle I R (nI i) 13 = some (bt i 4) := bb 13 (by omega)
      have c0 : mi_X8_count F I R 0 = some (nI s) := (hR.count hF 0 (by omega)).trans (congrArg some a1)
      have c15 : mi_X8_count F I R 15 = some (sc 11) := hR.count hF 15 (by omega)
      have h1 : sp_db (sc 11) bt (i + 1) = sp_db (sc 11) bt i + (if sp_df (bt i) ≤ sc 11 then 0 else 1) := by
        show sp_db (sc 11) bt i + _ = _
        rw [if_neg co]
      have h2 : sp_wo bt (d + 1) i u v = if sp_df (bt i) ≤ v then sp_wo bt d (i + 1) u v else sp_wo bt d (i + 1) (nI i) (sp_df (bt i)) := if_neg co
      have hdb : nI (sp_db (sc 11) bt i) + (if sp_df (bt i) ≤ sc 11 then 0 else 1) = nI (sp_db (sc 11) bt (i + 1)) := by
        rw [h1]
        by_cases cd : sp_df (bt i) ≤ sc 11
        · rw [if_pos cd, if_pos cd]
          exact Int32.add_zero _
        · rw [if_neg cd, if_neg cd]
          exact nI_add _ 1
      have last : ∀ u1 v1, sp_wo bt d (i + 1) u1 v1 = W → mi_L_bottles_J348 k24 F I R (nI nb) (nI (sp_wt p mb (i + 1))) (nI (sp_ct bt (i + 1))) (nI (sp_db (sc 11) bt (i + 1))) u1 (nI i) (nI (10 * e)) (sp_df (bt i)) v1 = some 1 := by
        intro u1 v1 hu
        have j392 : mi_L_bottles_J392 k24 F I R (nI nb) (nI (sp_wt p mb (i + 1))) (nI (sp_ct bt (i + 1))) (nI (sp_db (sc 11) bt (i + 1))) u1 v1 (nI i) (nI (10 * e)) (sp_df (bt i)) = some 1 := by
          unfold mi_L_bottles_J392
          rw [b6, mz_ob, c0, mz_ob, if_neg (zl_nlt q1 (by omega)), b8, mz_ob, b7, mz_ob, hpair, if_pos rfl, if_neg (show ¬ nI (10 * e) < 0 from zl_nlt (b := 0) (by omega) (by omega)), b11, mz_ob, if_neg (zl_nlt q5 (by omega)), b12, mz_ob, c15, mz_ob]
          unfold mi_L_bottles_J475
          simp only [mz_bn]
          rw [e1]
          by_cases cd : sp_df (bt i) ≤ sc 11
          · rw [if_pos cd, if_pos cd, if_pos rfl]
            exact hk _ _ hu
          · rw [if_neg cd, if_neg cd, if_pos rfl]
            exact hk _ _ hu
        unfold mi_L_bottles_J348
        have hsum : ¬ bt i 3 + bt i 4 < 1 := by
          rcases z4 with g | ⟨n, n1, n2, g⟩
          · rw [g, z2', show nI ct + 1 = nI (ct + 1) from nI_add ct 1]
            exact zl_nlt (b := 1) (by omega) (by omega)
          · rcases t4 with f | f
            · rw [g, f, Int32.add_zero]
              exact zl_nlt (b := 1) n1 (by omega)
            · rw [g, f, show nI n + 1 = nI (n + 1) from nI_add n 1]
              exact zl_nlt (b := 1) (by omega) (by omega)
        rw [b5, mz_ob, b13, mz_ob, if_neg hsum, b4, mz_ob]
        by_cases ch : bt i 2 = 1
        · rw [if_pos ch, mz_ob, z5 ch, if_neg zk_10]
          exact j392
        · rw [if_neg ch]
          exact j392
      rw [hv, co1, if_neg zk_10]
      rw [show (6 : Int32) = nI 6 from rfl, zk_eight (v10 := 1) (fun j j1 j2 => ⟨_, bb j (by omega), Or.inr ⟨by
        rcases (show j = 6 ∨ j = 7 ∨ j = 8 ∨ j = 9 ∨ j = 10 ∨ j = 11 ∨ j = 12 by omega) with rfl | rfl | rfl | rfl | rfl | rfl | rfl
        · rw [show sv_bot (p, sl, lo, nb, nm, mb, ms, sc, bt) i 6 = bt i 5 from if_neg co, q2]
          exact zk_n5 (by omega)
        · rw [show sv_bot (p, sl, lo, nb, nm, mb, ms, sc, bt) i 7 = bt i 6 from if_neg co]
          have := zk_wane (e := 0) q9 (by omega)
          rw [show nI 0 = (0 : Int32) from rfl, Int32.add_zero] at this
          exact this
        · rw [show sv_bot (p, sl, lo, nb, nm, mb, ms, sc, bt) i 8 = bt i 7 from if_neg co, q6]
          exact zk_wane q9 (by omega)
        · rw [show sv_bot (p, sl, lo, nb, nm, mb, ms, sc, bt) i 9 = bt i 8 from if_neg co]
          obtain ⟨q, q', q''⟩ := q10
          rw [q'']
          exact zk_n5 (by omega)
        · rw [show sv_bot (p, sl, lo, nb, nm, mb, ms, sc, bt) i 10 = 10 * (bt i 7 - bt i 6) from if_neg co, hpair]
          exact zk_n5 (by omega)
        · rw [show sv_bot (p, sl, lo, nb, nm, mb, ms, sc, bt) i 11 = bt i 9 from if_neg co, q4]
          exact zk_n5 (by omega)
        · rw [show sv_bot (p, sl, lo, nb, nm, mb, ms, sc, bt) i 12 = (if sp_df (bt i) ≤ sc 11 then 0 else 1) from if_neg co]
          split <;> decide, rfl⟩⟩) F 7 6 (by omega) (by omega) (by omega)]
      unfold zk_T
      rw [if_neg zk_10, b10, mz_ob, b11, mz_ob, if_pos (zl_le q5 (by omega)), mz_ob, hsub, ← hdf]
      unfold mi_L_bottles_J303
      rw [b12, mz_ob]
      simp only [mz_bn]
      rw [hdb]
      unfold mi_L_bottles_J332
      by_cases cv : sp_df (bt i) ≤ v
      · rw [if_pos cv, if_pos cv]
        exact last u v (by rw [← hW, h2, if_pos cv])
      · rw [if_neg cv, if_neg cv]
        exact last (nI i) (sp_df (bt i)) (by rw [← hW, h2, if_neg cv])
  have mid : ∀ v10 : Int32, v10 = bt i 1 → ∀ r, r = nI (p - mb i) → mi_L_bottles_J145 k24 F I R (nI nb) (nI (sp_wt p mb (i + 1))) (nI (sp_ct bt (i + 1))) (nI (sp_db (sc 11) bt i)) u v (nI i) v10 r (nI (p - mb i)) = some 1 := by
    intro v10 hv r hr
    unfold mi_L_bottles_J145
    rw [hr, if_pos rfl, show mi_X8_bottle I R (nI i) 2 = some (nI (sp_dep (p - mb i) (sp_cs sl lo))) from bb 2 (by omega), mz_ob, show mi_X8_bottle I R (nI i) 1 = some (nI (p - mb i)) from bb 1 (by omega), mz_ob, show mi_X8_count F I R 3 = some (nI (sp_cs sl lo)) from hR.count hF 3 (by omega), mz_ob, zk_depth I (by omega) (sp_cs_le _ _), mz_ob, if_pos rfl]
    by_cases co : bt i 1 = 0
    · rw [if_pos (hv.trans co), show mi_X8_bottle I R (nI i) 13 = some (bt i 4) from bb 13 (by omega), mz_ob, (z1 co).2, if_pos rfl]
      exact tail v10 hv
    · rw [if_neg (fun q => co (hv.symm.trans q))]
      exact tail v10 hv
  have mid2 : ∀ v9 : Int32, v9 = (if p ≤ mb i then 0 else 1) → ∀ v10 : Int32, v10 = bt i 1 → mi_L_bottles_J121 k24 F I R (nI nb) (nI (sp_wt p mb (i + 1))) (nI (sp_ct bt (i + 1))) (nI (sp_db (sc 11) bt i)) u v (nI i) (nI (mb i)) v9 v10 = some 1 := by
    intro v9 hv9 v10 hv
    unfold mi_L_bottles_J121
    rw [show mi_X8_bottle I R (nI i) 1 = some (nI (p - mb i)) from bb 1 (by omega), mz_ob, hv9]
    by_cases cw : p ≤ mb i
    · rw [if_pos cw, if_pos rfl]
      exact mid v10 hv 0 (by rw [show p - mb i = 0 by omega]; rfl)
    · rw [if_neg cw, if_neg zk_10, show mi_X8_count F I R 1 = some (nI p) from c1, mz_ob]
      exact mid v10 hv _ (zi_sub (by omega))
  have mid3 : ∀ v9 : Int32, v9 = (if p ≤ mb i then 0 else 1) → ∀ v10 : Int32, v10 = bt i 1 → ∀ s0 : Int32, s0 = (if bt i 1 = 0 then 0 else 1) → mi_L_bottles_J98 k24 F I R (nI nb) (nI (sp_wt p mb (i + 1))) (nI (sp_db (sc 11) bt i)) u v (nI i) (nI (mb i)) v9 v10 s0 (nI (sp_ct bt i)) = some 1 := by
    intro v9 hv9 v10 hv s0 hs0
    unfold mi_L_bottles_J98
    simp only [mz_bn]
    have e2 : nI (sp_ct bt i) + s0 = nI (sp_ct bt (i + 1)) := by
      rw [hs0, show sp_ct bt (i + 1) = sp_ct bt i + (if bt i 1 = 0 then 0 else 1) from rfl]
      by_cases co : bt i 1 = 0
      · rw [if_pos co, if_pos co]
        exact Int32.add_zero _
      · rw [if_neg co, if_neg co]
        exact nI_add _ 1
    rw [e2]
    by_cases i0 : i = 0
    · rw [if_pos (show nI i ≤ 0 from zl_le (b := 0) (by omega) (by omega))]
      exact mid2 v9 hv9 v10 hv
    · have hb := x2 (i - 1) i (by omega) hi
      rw [if_neg (show ¬ nI i ≤ 0 from zl_nle (b := 0) (by omega) (by omega)), show nI i - 1 = nI (i - 1) from pk_sub (b := 1) (by omega), show mi_X8_bottle I R (nI (i - 1)) 0 = some (nI (mb (i - 1))) from hR.bottle (k := i - 1) (j := 0) (show i - 1 < nb by omega) (by omega), mz_ob, show nI (mb (i - 1)) + 5 = nI (mb (i - 1) + 5) from nI_add _ 5, if_neg (zl_nlt hb (by omega))]
      exact mid2 v9 hv9 v10 hv
  have mid4 : ∀ v9 : Int32, v9 = (if p ≤ mb i then 0 else 1) → mi_L_bottles_J54 k24 F I R (nI nb) (nI (sp_wt p mb i)) (nI (sp_ct bt i)) (nI (sp_db (sc 11) bt i)) u v (nI i) (nI (mb i)) v9 = some 1 := by
    intro v9 hv9
    unfold mi_L_bottles_J54
    rw [show mi_X8_bottle I R (nI i) 3 = some (bt i 1) from bb 3 (by omega), mz_ob]
    have e2 : ∀ s0 : Int32, s0 = v9 → nI (sp_wt p mb i) + s0 = nI (sp_wt p mb (i + 1)) := fun s0 hs0 => by
      rw [hs0, hv9, show sp_wt p mb (i + 1) = sp_wt p mb i + (if p ≤ mb i then 0 else 1) from rfl]
      by_cases cw : p ≤ mb i
      · rw [if_pos cw, if_pos cw]
        exact Int32.add_zero _
      · rw [if_neg cw, if_neg cw]
        exact nI_add _ 1
    have go : ∀ v10 : Int32, v10 = bt i 1 → mi_L_bottles_J72 k24 F I R (nI nb) (nI (sp_wt p mb i)) (nI (sp_ct bt i)) (nI (sp_db (sc 11) bt i)) u v (nI i) (nI (mb i)) v9 v10 = some 1 := by
      intro v10 hv
      have in85 : ∀ s0 : Int32, s0 = v9 → mi_L_bottles_J85 k24 F I R (nI nb) (nI (sp_ct bt i)) (nI (sp_db (sc 11) bt i)) u v (nI i) (nI (mb i)) v9 v10 s0 (nI (sp_wt p mb i)) = some 1 := by
        intro s0 hs0
        unfold mi_L_bottles_J85
        simp only [mz_bn]
        rw [e2 s0 hs0]
        by_cases co : bt i 1 = 0
        · rw [if_pos (hv.trans co)]
          exact mid3 v9 hv9 v10 hv 0 (if_pos co).symm
        · rw [if_neg (fun q => co (hv.symm.trans q))]
          exact mid3 v9 hv9 v10 hv 1 (if_neg co).symm
      unfold mi_L_bottles_J72
      by_cases c9 : v9 = 0
      · rw [if_pos c9]
        exact in85 0 c9.symm
      · rw [if_neg c9]
        refine in85 1 ?_
        rw [hv9] at c9 ⊢
        by_cases cw : p ≤ mb i
        · exact absurd (if_pos cw) c9
        · exact (if_neg cw).symm
    by_cases co : bt i 1 = 1
    · rw [if_pos co]
      exact go 1 co.symm
    · rw [if_neg co]
      exact go 0 (t1.resolve_right co).symm
  by_cases cw : p ≤ mb i
  · rw [if_pos (zl_le cw (by omega))]
    exact mid4 0 (if_pos cw).symm
  · rw [if_neg (zl_nle (by omega) (by omega))]
    exact mid4 1 (if_neg cw).symm
theorem zk_botL {F ns p sl lo nb nm : Nat} {mb ms : Nat → Nat} {sc : Nat → Int32} {bt : Nat → Nat → Int32} {I : Nat → Nat → Int32} {R : Nat → Nat → Option Nat} {AH : Nat → mz_A} (hF : 1100 ≤ F) (hR : zl_R I R (p, sl, lo, nb, nm, mb, ms, sc, bt) ns AH) : ∀ (n d i : Nat) (u v : Int32), i + d = nb → d < n → sp_wo bt d i u v = sp_wo bt nb 0 (-1005) (-1) → mi_L_bottles_L24 F n I R (nI nb) (nI (sp_wt p mb i)) (nI (sp_ct bt i)) (nI (sp_db (sc 11) bt i)) u v (nI i) = some 1 := by
  have hn : nb ≤ 10 := hR.ok.1.1.2.2.2.1
  intro n
  induction n with
  | zero => intro d i u v _ q; omega
  | succ n ih =>
    intro d i u v hid hdn hW
    show mi_L_bottles_B24 _ F I R _ _ _ _ _ _ _ = _
    cases d with
    | zero =>
      have : i = nb := by omega
      subst this
      have hw : u = sp_wo bt i 0 (-1005) (-1) := hW
      unfold mi_L_bottles_B24
      rw [if_pos (zl_le (by omega) (by omega)), show mi_X8_count F I R 6 = some (nI (sp_wt p mb i)) from hR.count hF 6 (by omega), mz_ob, if_pos rfl, show mi_X8_count F I R 7 = some (nI (sp_ct bt i)) from hR.count hF 7 (by omega), mz_ob, if_pos rfl, show mi_X8_count F I R 8 = some (nI (sp_db (sc 11) bt i)) from hR.count hF 8 (by omega), mz_ob, if_pos rfl, show mi_X8_worst F I R = some (sp_wo bt i 0 (-1005) (-1)) from hR.worst hF, mz_ob, if_pos hw.symm]
    | succ d => exact zk_step hF hR hid hW (fun u1 v1 h => ih d (i + 1) u1 v1 (by omega) (by omega) h)
theorem zl_R.bottles {I : Nat → Nat → Int32} {R : Nat → Nat → Option Nat} {A : mz_A} {F ns : Nat} {AH : Nat → mz_A} (h : zl_R I R A ns AH) (hF : 1100 ≤ F) : mi_L_bottles F I R = some 1 := by
  obtain ⟨p, sl, lo, nb, nm, mb, ms, sc, bt⟩ := A
  have hn : nb ≤ 10 := h.ok.1.1.2.2.2.1
  unfold mi_L_bottles
  rw [show mi_X8_count F I R 5 = some (nI nb) from h.count hF 5 (by omega), mz_ob]
  exact zk_botL hF h F nb 0 _ _ (by omega) (by omega) rfl

/-! jerks: a jerk shuts the open bottle in the water with the least mark, and lets no messenger loose -/
theorem zk_yq {y : Int32} {g : Nat} (hg : g ≤ 999) : (y ≤ nI g) = (y.toNatClampNeg ≤ g) := by
  apply propext
  by_cases h : y < 0
  · have h2 : y.toNatClampNeg = 0 := by
      rw [Int32.lt_iff_toInt_lt, show (0 : Int32).toInt = 0 by decide] at h
      rw [Int32.toNatClampNeg]
      omega
    rw [h2]
    refine ⟨fun _ => Nat.zero_le _, fun _ => ?_⟩
    rw [Int32.lt_iff_toInt_lt, show (0 : Int32).toInt = 0 by decide] at h
    rw [Int32.le_iff_toInt_le, nI_toInt (by omega)]
    omega
  · obtain ⟨j, hj, rfl⟩ := nI_of h
    rw [zi_cl hj]
    exact nI_leI hj (by omega)
theorem zk_sz {x : Int32} {c : Nat} (hc : c ≤ 999) (h1 : -999 ≤ x.toInt) (h2 : x.toInt ≤ 999) : mi_X9_size x ≤ nI c ↔ (¬ nI c < x ∧ -x ≤ nI c) := by
  have hn : (-x).toInt = -x.toInt := by
    rw [Int32.toInt_neg, Int.bmod_eq_of_le (by omega) (by omega)]
  unfold mi_X9_size
  have e0 : (0 : Int32).toInt = 0 := by decide
  by_cases h : 0 ≤ x
  · rw [if_pos h]
    rw [Int32.le_iff_toInt_le] at h
    rw [Int32.le_iff_toInt_le, Int32.lt_iff_toInt_lt, Int32.le_iff_toInt_le, hn, nI_toInt (by omega)]
    omega
  · rw [if_neg h]
    rw [Int32.le_iff_toInt_le] at h
    rw [Int32.le_iff_toInt_le, Int32.lt_iff_toInt_lt, hn, nI_toInt (by omega)]
    omega
def zk_jf (x : Int32) (c : Int32) (o : Option Nat) : Int32 := match o with
  | none => 0
  | some _ => if mi_X9_size x ≤ c then 0 else 1
section JRK
variable {I : Nat → Nat → Int32} {R : Nat → Nat → Option Nat} {F ns p sl lo nb nm : Nat} {mb ms : Nat → Nat} {sc : Nat → Int32} {bt : Nat → Nat → Int32} {AH : Nat → mz_A} {x : Int32}
theorem zk_j290 {A B : mz_A} {m : Nat} (hF : 1100 ≤ F) (h : zl_R I R B (m + 1) AH) (hA : AH m = A) : ∃ I1 ns1 AH1, mi_L_jerks_J290 F I R (sv_pr A) 1 = some (I1, R, 1) ∧ zl_R I1 R A ns1 AH1 := by
  have h4 := h.ns4
  obtain ⟨I1, a, b⟩ := zl_undo hF h
  rw [hA] at b
  unfold mi_L_jerks_J290
  rw [if_neg zk_10, h.hangs hF, mz_ob, if_neg zk_10, a, mz_ob2, if_neg (show ¬ nI m < 0 from zl_nlt (b := 0) (by omega) (by omega)), b.print hF, mz_ob, zk_cmp, if_pos rfl]
  exact ⟨I1, m, AH, rfl, b⟩
theorem zk_j104 (hF : 1100 ≤ F) (h1 : -999 ≤ x.toInt) (h2 : x.toInt ≤ 999) (h : zl_R I R (p, sl, lo, nb, nm, mb, ms, sc, bt) ns AH) : ∃ I1 R1 ns1 AH1, mi_L_jerks_J104 F I R x (sv_pr (p, sl, lo, nb, nm, mb, ms, sc, bt)) (mz_enc (sp_up (nI p + x).toNatClampNeg mb bt nb 0)) (nI p + x) (zk_jf x (sc 12) (sp_up (nI p + x).toNatClampNeg mb bt nb 0)) = some (I1, R1, 1) ∧ zl_R I1 R1 (p, sl, lo, nb, nm, mb, ms, sc, bt) ns1 AH1 := by
  obtain ⟨⟨⟨w1, w2, w3, w4, w5⟩, x1, x2, x3, x4, x5⟩, s, hs, a1, ⟨⟨c, c1, c2⟩, -⟩, a3, a4, a5⟩ := id h.ok
  obtain ⟨I2, R2, a, b⟩ := (zm_pay hF x).2 I R _ ns AH h
  dsimp only at a
  have k1 : ¬ (x < -999 ∨ 999 < x) := by
    rw [Int32.lt_iff_toInt_lt, Int32.lt_iff_toInt_lt, show (-999 : Int32).toInt = -999 by decide, show (999 : Int32).toInt = 999 by decide]
    omega
  unfold mi_L_jerks_J104
  rw [show mi_X8_count F I R 7 = some (nI (sp_ct bt nb)) from h.count hF 7 (by omega), mz_ob, show mi_X8_count F I R 11 = some (sc 7) from h.count hF 11 (by omega), mz_ob, show mi_X8_count F I R 9 = some (nI nm) from h.count hF 9 (by omega), mz_ob, a, mz_ob3]
  have ref : ∀ e : Int32, sq_pay x (p, sl, lo, nb, nm, mb, ms, sc, bt) = ((p, sl, lo, nb, nm, mb, ms, sc, bt), e) → ¬ 0 ≤ e → e ≤ -1001 → (x = 0 ∨ nI p + x < 0 ∨ ¬ nI p + x ≤ 999) → ∃ I1 R1 ns1 AH1, (if 0 ≤ (sq_pay x (p, sl, lo, nb, nm, mb, ms, sc, bt)).2 then
    mc_ob (mi_X8_count F I2 R2 1) fun r22 =>
    if r22 = nI p + x then
      mc_ob (mi_X8_count F I2 R2 9) fun r37 =>
      if r37 = (nI nm - (sq_pay x (p, sl, lo, nb, nm, mb, ms, sc, bt)).2) then
        mc_ob (mi_X8_count F I2 R2 11) fun r40 =>
        if r40 = sc 7 then
          mc_ob (mi_X8_count F I2 R2 7) fun r43 =>
          if zk_jf x (sc 12) (sp_up (nI p + x).toNatClampNeg mb bt nb 0) = 0 then
            mi_L_jerks_J227 F I2 R2 (sv_pr (p, sl, lo, nb, nm, mb, ms, sc, bt)) (mz_enc (sp_up (nI p + x).toNatClampNeg mb bt nb 0)) (nI p + x) (zk_jf x (sc 12) (sp_up (nI p + x).toNatClampNeg mb bt nb 0)) 0 (nI (sp_ct bt nb)) r43
          else
            mi_L_jerks_J227 F I2 R2 (sv_pr (p, sl, lo, nb, nm, mb, ms, sc, bt)) (mz_enc (sp_up (nI p + x).toNatClampNeg mb bt nb 0)) (nI p + x) (zk_jf x (sc 12) (sp_up (nI p + x).toNatClampNeg mb bt nb 0)) 1 (nI (sp_ct bt nb)) r43
        else
          mi_L_jerks_J290 F I2 R2 (sv_pr (p, sl, lo, nb, nm, mb, ms, sc, bt)) 0
      else
        mi_L_jerks_J290 F I2 R2 (sv_pr (p, sl, lo, nb, nm, mb, ms, sc, bt)) 0
    else
      mi_L_jerks_J290 F I2 R2 (sv_pr (p, sl, lo, nb, nm, mb, ms, sc, bt)) 0
  else
    mc_ob (mi_L_print F I2 R2) fun r61 =>
    if (lg_cmp r61 (sv_pr (p, sl, lo, nb, nm, mb, ms, sc, bt))) = 0 then
      if x = 0 then
        some (I2, R2, 1)
      else
        if nI p + x < 0 then
          some (I2, R2, 1)
        else
          if nI p + x ≤ 999 then
            some (I2, R2, 0)
          else
            some (I2, R2, 1)
    else
      some (I2, R2, 0)) = some (I1, R1, 1) ∧ zl_R I1 R1 (p, sl, lo, nb, nm, mb, ms, sc, bt) ns1 AH1 := by
    intro e he he0 he1 hc
    rw [he] at b ⊢
    dsimp only at b ⊢
    rcases b with ⟨-, -, b2⟩ | ⟨b1, -⟩
    · rw [if_neg he0, b2.print hF, mz_ob, zk_cmp, if_pos rfl]
      by_cases q1 : x = 0
      · rw [if_pos q1]
        exact ⟨I2, R2, ns, AH, rfl, b2⟩
      · rw [if_neg q1]
        by_cases q2 : nI p + x < 0
        · rw [if_pos q2]
          exact ⟨I2, R2, ns, AH, rfl, b2⟩
        · rw [if_neg q2, if_neg ((hc.resolve_left q1).resolve_left q2)]
          exact ⟨I2, R2, ns, AH, rfl, b2⟩
    · exact absurd he1 b1
  by_cases g1 : x = 0 ∨ x < -999 ∨ 999 < x
  · refine ref (-1002) ?_ (by decide) (by decide) (Or.inl (g1.resolve_right k1))
    unfold sq_pay
    dsimp only
    rw [if_pos g1]
  · by_cases g2 : nI p + x < 0
    · refine ref (-1004) ?_ (by decide) (by decide) (Or.inr (Or.inl g2))
      unfold sq_pay
      dsimp only
      rw [if_neg g1, if_pos g2]
    · by_cases g3 : 999 < nI p + x
      · refine ref (-1003) ?_ (by decide) (by decide) (Or.inr (Or.inr (zn_nle32 g3)))
        unfold sq_pay
        dsimp only
        rw [if_neg g1, if_neg g2, if_pos g3]
      · obtain ⟨q, hq, hy⟩ : ∃ q : Nat, q ≤ 999 ∧ nI p + x = nI q := by
          rcases zn_ix (nI p + x) (n := 999) (by omega) with z | z | z
          · exact absurd z g2
          · exact absurd z g3
          · exact z
        have hS : sq_pay x (p, sl, lo, nb, nm, mb, ms, sc, bt) = ((q, sl, lo, nb, sp_cut q ms nm, mb, ms, va_up sc 10 (sc 10 + nI (nm - sp_cut q ms nm)), if mi_X9_size x ≤ sc 12 then bt else sp_jk q (sp_cs sl lo) sc mb bt (sp_up q mb bt nb 0)), nI (nm - sp_cut q ms nm)) := by
          unfold sq_pay
          dsimp only
          rw [if_neg g1, if_neg g2, if_neg g3, hy, zi_cl (by omega)]
        have hcl := sp_cut_le q ms nm
        have hctl := sp_ct_le (bt := bt) nb
        rw [hS] at b ⊢
        clear ref
        rw [hy, zi_cl (by omega)]
        dsimp only at b ⊢
        rcases b with ⟨b1, -⟩ | ⟨b1, AH1, b2, b3⟩
        · exact absurd b1 (zk_nd (by omega))
        · obtain ⟨I3, ns3, AH3, y1, y2⟩ := zk_j290 hF b2 b3
          have u : ∀ j, j ≠ 10 → va_up sc 10 (sc 10 + nI (nm - sp_cut q ms nm)) j = sc j := fun j hj => va_up_ne _ _ hj
          rw [if_pos (zk_0le _ (by omega)), show mi_X8_count F I2 R2 1 = some (nI q) from b2.count hF 1 (by omega), mz_ob, if_pos rfl, show mi_X8_count F I2 R2 9 = some (nI (sp_cut q ms nm)) from b2.count hF 9 (by omega), mz_ob, if_pos (by rw [zi_sub (by omega)]; exact congrArg nI (by omega)), show mi_X8_count F I2 R2 11 = some (sc 7) from (b2.count hF 11 (by omega)).trans (congrArg some (u 7 (by omega))), mz_ob, if_pos rfl]
          have hc7 := b2.count hF 7 (by omega)
          have hc00 := b2.count hF 0 (by omega)
          have hc0 : mi_X8_count F I2 R2 0 = some (sc 0) := hc00.trans (congrArg some (u 0 (by omega)))
          have hbt := fun k (hk : k < nb) j (hj : j ≤ 13) => b2.bottle (k := k) (j := j) hk hj
          -- no jerk
          have nojerk : ∀ z : Int32, z = 0 → ∀ r : Int32, r = nI (sp_ct bt nb) → ∃ I1 R1 ns1 AH1, (if z = 0 then mi_L_jerks_J227 F I2 R2 (sv_pr (p, sl, lo, nb, nm, mb, ms, sc, bt)) (mz_enc (sp_up q mb bt nb 0)) (nI q) z 0 (nI (sp_ct bt nb)) r else mi_L_jerks_J227 F I2 R2 (sv_pr (p, sl, lo, nb, nm, mb, ms, sc, bt)) (mz_enc (sp_up q mb bt nb 0)) (nI q) z 1 (nI (sp_ct bt nb)) r) = some (I1, R1, 1) ∧ zl_R I1 R1 (p, sl, lo, nb, nm, mb, ms, sc, bt) ns1 AH1 := by
            intro z hz r hr
            rw [if_pos hz]
            unfold mi_L_jerks_J227
            rw [if_pos (by rw [hr]; exact (Int32.add_zero _).symm), if_pos hz]
            exact ⟨I3, R2, ns3, AH3, y1, y2⟩
          by_cases cj : mi_X9_size x ≤ sc 12
          · rw [if_pos cj] at hc7
            rw [show mi_X8_count F I2 R2 7 = some (nI (sp_ct bt nb)) from hc7, mz_ob]
            refine nojerk _ ?_ _ rfl
            cases sp_up q mb bt nb 0 with
            | none => rfl
            | some k => exact if_pos cj
          · rw [if_neg cj] at hc7 hbt
            cases ho : sp_up q mb bt nb 0 with
            | none =>
              rw [ho] at hc7 nojerk
              rw [show mi_X8_count F I2 R2 7 = some (nI (sp_ct bt nb)) from hc7, mz_ob]
              exact nojerk _ rfl _ rfl
            | some k =>
              rw [ho] at hc7 hbt
              obtain ⟨-, k2, k3, k4⟩ := sp_up_lt nb 0 k ho
              rw [Nat.zero_add] at k2
              have hup := sp_ct_up (bt := bt) (k := k) (t := va_up (sp_sb q (sp_cs sl lo) sc (mb k) (bt k)) 4 1) nb k2
              rw [if_pos k3, if_neg (show ¬ va_up (sp_sb q (sp_cs sl lo) sc (mb k) (bt k)) 4 1 1 = 0 from by rw [va_up_ne _ _ (by omega)]; exact zk_10)] at hup
              have hup2 : sp_ct (sp_jk q (sp_cs sl lo) sc mb bt (some k)) nb = sp_ct bt nb + 1 := hup
              have hbk : ∀ j, j ≠ 4 → sp_jk q (sp_cs sl lo) sc mb bt (some k) k j = sp_sb q (sp_cs sl lo) sc (mb k) (bt k) j := fun j hj => by
                show va_up bt k (va_up (sp_sb q (sp_cs sl lo) sc (mb k) (bt k)) 4 1) k j = _
                rw [va_up_self, va_up_ne _ _ hj]
              have hb4 : sp_jk q (sp_cs sl lo) sc mb bt (some k) k 4 = 1 := by
                show va_up bt k (va_up (sp_sb q (sp_cs sl lo) sc (mb k) (bt k)) 4 1) k 4 = _
                rw [va_up_self, va_up_self]
              have hb1 : ¬ sp_jk q (sp_cs sl lo) sc mb bt (some k) k 1 = 0 := by
                rw [hbk 1 (by omega)]
                exact zk_10
              have r13 : mi_X8_bottle I2 R2 (nI k) 13 = some 1 := (hbt k k2 13 (by omega)).trans (congrArg some hb4)
              have r11 : mi_X8_bottle I2 R2 (nI k) 11 = some (nI (q - mb k)) := (hbt k k2 11 (by omega)).trans (congrArg some ((if_neg hb1).trans (hbk 9 (by omega))))
              have r0 : mi_X8_bottle I2 R2 (nI k) 0 = some (nI (mb k)) := hbt k k2 0 (by omega)
              have r6 : mi_X8_bottle I2 R2 (nI k) 6 = some (sc 0) := (hbt k k2 6 (by omega)).trans (congrArg some ((if_neg hb1).trans (hbk 5 (by omega))))
              have hz : zk_jf x (sc 12) (some k) = 1 := if_neg cj
              rw [show mi_X8_count F I2 R2 7 = some (nI (sp_ct (sp_jk q (sp_cs sl lo) sc mb bt (some k)) nb)) from hc7, mz_ob, hz, if_neg zk_10, hup2]
              unfold mi_L_jerks_J227
              rw [if_pos (show nI (sp_ct bt nb + 1) = nI (sp_ct bt nb) + 1 from (nI_add _ 1).symm), if_neg zk_10]
              show ∃ I1 R1 ns1 AH1, (mc_ob (mi_X8_bottle I2 R2 (nI k) 13) fun r48 => _) = _ ∧ _
              rw [r13, mz_ob, if_pos rfl]
              show ∃ I1 R1 ns1 AH1, (mc_ob (mi_X8_bottle I2 R2 (nI k) 11) fun r51 => mc_ob (mi_X8_bottle I2 R2 (nI k) 0) fun r53 => if r51 = nI q - r53 then mc_ob (mi_X8_bottle I2 R2 (nI k) 6) fun r56 => _ else _) = _ ∧ _
              rw [r11, mz_ob, r0, mz_ob, if_pos (by rw [zi_sub (by omega)]), r6, mz_ob, hc0, mz_ob, if_pos rfl]
              exact ⟨I3, R2, ns3, AH3, y1, y2⟩
theorem zk_j28 (hF : 1100 ≤ F) (h1 : -999 ≤ x.toInt) (h2 : x.toInt ≤ 999) (h : zl_R I R (p, sl, lo, nb, nm, mb, ms, sc, bt) ns AH) : ∀ (f m : Nat), m ≤ nb → m < f → ∃ I1 R1 ns1 AH1, mi_L_jerks_L28 F f I R x (sv_pr (p, sl, lo, nb, nm, mb, ms, sc, bt)) (mz_enc (sp_up (nI p + x).toNatClampNeg mb bt (nb - m) m)) (nI p + x) (nI m - 1) = some (I1, R1, 1) ∧ zl_R I1 R1 (p, sl, lo, nb, nm, mb, ms, sc, bt) ns1 AH1 := by
  obtain ⟨⟨⟨w1, w2, w3, w4, w5⟩, x1, x2, x3, x4, x5⟩, s, hs, a1, ⟨⟨c, c1, c2⟩, -⟩, a3, a4, a5⟩ := id h.ok
  intro f
  induction f with
  | zero => intro m _ q; omega
  | succ f ih =>
    intro m hm hmf
    show ∃ I1 R1 ns1 AH1, mi_L_jerks_B28 _ F I R _ _ _ _ _ = _ ∧ _
    have end_ := zk_j104 hF h1 h2 h
    unfold mi_L_jerks_B28
    cases m with
    | zero =>
      rw [if_pos (show nI 0 - 1 < 0 by decide), Nat.sub_zero]
      cases ho : sp_up (nI p + x).toNatClampNeg mb bt nb 0 with
      | none =>
        rw [ho] at end_
        rw [if_pos (show mz_enc none = -1005 from rfl)]
        exact end_
      | some k =>
        rw [ho] at end_
        obtain ⟨-, k2, -⟩ := sp_up_lt nb 0 k ho
        have hc16 : mi_X8_count F I R 16 = some (nI c) := (h.count hF 16 (by omega)).trans (congrArg some c2)
        have hsz := zk_sz c1 h1 h2
        rw [if_neg (show ¬ mz_enc (some k) = -1005 from mz_enc_no (by omega)), hc16, mz_ob]
        by_cases q1 : nI c < x
        · have hz : zk_jf x (sc 12) (some k) = 1 := if_neg (by rw [c2]; exact fun z => (hsz.mp z).1 q1)
          rw [hz] at end_
          rw [if_pos q1]
          exact end_
        · rw [if_neg q1, mz_ob]
          by_cases q2 : -x ≤ nI c
          · have hz : zk_jf x (sc 12) (some k) = 0 := if_pos (by rw [c2]; exact hsz.mpr ⟨q1, q2⟩)
            rw [hz] at end_
            rw [if_pos q2]
            exact end_
          · have hz : zk_jf x (sc 12) (some k) = 1 := if_neg (by rw [c2]; exact fun z => q2 (hsz.mp z).2)
            rw [hz] at end_
            rw [if_neg q2]
            exact end_
    | succ m =>
      have hmn : m < nb := by omega
      have e1 : nI (m + 1) - 1 = nI m := pk_sub (a := m + 1) (b := 1) (by omega)
      have hup : sp_up (nI p + x).toNatClampNeg mb bt (nb - m) m = if bt m 1 = 0 ∧ mb m < (nI p + x).toNatClampNeg then some m else sp_up (nI p + x).toNatClampNeg mb bt (nb - (m + 1)) (m + 1) := by
        rw [show nb - m = (nb - (m + 1)) + 1 by omega]
        rfl
      have ihh := ih m (by omega) (by omega)
      rw [hup] at ihh
      rw [e1, if_neg (show ¬ nI m < 0 from zl_nlt (b := 0) (by omega) (by omega)), show mi_X8_bottle I R (nI m) 0 = some (nI (mb m)) from h.bottle (k := m) (j := 0) hmn (by omega), mz_ob, show mi_X8_bottle I R (nI m) 3 = some (bt m 1) from h.bottle (k := m) (j := 3) hmn (by omega)]
      simp only [mz_bn, mz_ob]
      rw [show nI m + -1 = nI m - 1 from (zn_subm _).symm]
      by_cases q1 : nI p + x ≤ nI (mb m)
      · have q1' : (nI p + x).toNatClampNeg ≤ mb m := by
          rw [zk_yq (x1 m hmn)] at q1
          exact q1
        rw [if_neg (fun z => by omega)] at ihh
        rw [if_pos q1]
        exact ihh
      · have q1' : ¬ (nI p + x).toNatClampNeg ≤ mb m := by
          rw [zk_yq (x1 m hmn)] at q1
          exact q1
        rw [if_neg q1]
        by_cases q2 : bt m 1 = 0
        · rw [if_pos ⟨q2, by omega⟩] at ihh
          rw [if_pos q2]
          exact ihh
        · rw [if_neg (fun z => q2 z.1)] at ihh
          rw [if_neg q2]
          exact ihh
end JRK
theorem zl_R.jerks {I : Nat → Nat → Int32} {R : Nat → Nat → Option Nat} {A : mz_A} {F ns : Nat} {AH : Nat → mz_A} {x : Int32} (h : zl_R I R A ns AH) (hF : 1100 ≤ F) (h1 : -999 ≤ x.toInt) (h2 : x.toInt ≤ 999) : ∃ I1 R1 ns1 AH1, mi_L_jerks F I R x = some (I1, R1, 1) ∧ zl_R I1 R1 A ns1 AH1 := by
  obtain ⟨p, sl, lo, nb, nm, mb, ms, sc, bt⟩ := A
  have hn : nb ≤ 10 := h.ok.1.1.2.2.2.1
  unfold mi_L_jerks
  rw [h.print hF, mz_ob, show mi_X8_count F I R 1 = some (nI p) from h.count hF 1 (by omega), mz_ob]
  simp only [mz_bn]
  rw [show mi_X8_count F I R 5 = some (nI nb) from h.count hF 5 (by omega), mz_ob]
  have := zk_j28 hF h1 h2 h F nb (Nat.le_refl _) (by omega)
  rw [Nat.sub_self] at this
  exact this

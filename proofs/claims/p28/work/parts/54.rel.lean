/-! the object: its state, its history; acts, undo, what is asked -/
theorem zk_ok.old {A : mz_A} (h : zk_ok A) : zz_ok A := by
  obtain ⟨hW, s, hs, hi⟩ := h
  exact ⟨hW, s, hs, mz_s0_iv hi⟩
def zl_H (I : Nat → Nat → Int32) (R : Nat → Nat → Option Nat) (ns : Nat) (AH : Nat → mz_A) (pt : Nat → Nat) : Prop := ns ≤ 4 ∧ I 145 1 = nI ns ∧ zz_pt R pt ∧ ∀ j, j < ns → zz_CS I R (pt j) (AH j) ∧ zk_ok (AH j)
def zl_P (R : Nat → Nat → Option Nat) : Prop := zz_RW R 0 ∧ zz_RW R 18 ∧ zz_RW R 36
def zl_R (I : Nat → Nat → Int32) (R : Nat → Nat → Option Nat) (A : mz_A) (ns : Nat) (AH : Nat → mz_A) : Prop := zl_P R ∧ zz_CS I R 0 A ∧ zk_ok A ∧ ∃ pt, zl_H I R ns AH pt
theorem zl_P.keep {R R1 : Nat → Nat → Option Nat} (h : zl_P R) (h0 : zz_RW R1 0) (h1 : ∀ x, 18 ≤ x → x < 54 → R1 x = R x) : zl_P R1 :=
  ⟨h0, zc_RWkeep h.2.1 (h1 _ (by omega) (by omega)), zc_RWkeep h.2.2 (h1 _ (by omega) (by omega))⟩
theorem zl_H.keep {I I1 : Nat → Nat → Int32} {R R1 : Nat → Nat → Option Nat} {ns : Nat} {AH : Nat → mz_A} {pt : Nat → Nat} (h : zl_H I R ns AH pt) (hI : ∀ x, 72 ≤ x → x < 144 → I1 x = I x) (hI2 : I1 145 1 = I 145 1) (hR : ∀ x, 72 ≤ x → R1 x = R x) : zl_H I1 R1 ns AH pt := by
  obtain ⟨a1, a2, a4, a5⟩ := h
  refine ⟨a1, by rw [hI2]; exact a2, fun j hj => ?_, fun j hj => ?_⟩
  · obtain ⟨b1, b2, b3, b4⟩ := a4 j hj
    have := a4.rng hj
    exact ⟨by rw [hR 146 (by omega)]; exact b1, zc_RWkeep b2 (hR _ (by omega)), b3, b4⟩
  · obtain ⟨c1, c3⟩ := a5 j hj
    have hr := a4.rng (show j < 4 by omega)
    exact ⟨zc_keep c3.1 (a4 j (by omega)).2.1 c1 (fun x x1 x2 => hI x (by omega) (by omega)) (hR _ (by omega)), c3⟩
theorem zl_add0 {I : Nat → Nat → Int32} {R : Nat → Nat → Option Nat} {F ns s : Nat} {AH : Nat → mz_A} {pt : Nat → Nat} {B : mz_A} (hF : 200 ≤ F) (h : zl_H I R ns AH pt) (hns : ns < 4) (hs : s + 18 ≤ 72) (hRs : zz_RW R s) (hC : zz_CS I R s B) (hB : zk_ok B) : ∃ I1 AH1, mi_X3_add_J12 F I R s = some (I1, R) ∧ zl_H I1 R (ns + 1) AH1 pt ∧ AH1 ns = B ∧ (∀ x, x < 72 ∨ x = 144 ∨ 146 ≤ x → I1 x = I x) := by
  obtain ⟨a1, a2, a4, a5⟩ := h
  obtain ⟨b1, b2, b3, b4⟩ := a4 ns hns
  have hrg := a4.rng hns
  obtain ⟨I2, c1, c2, c3⟩ := zc_copyFrom (F := F) (by omega) b2 hRs (by omega) hB.1 hC
  have e145 : I2 145 1 = nI ns := by rw [c2 145 (by omega)]; exact a2
  have k1 : mi_X3_add_J12 F I R s = some (mc_u I2 145 1 (nI (ns + 1)), R) := by
    unfold mi_X3_add_J12 mi_X3_add_J40
    rw [a2]
    simp (disch := omega) only [zi_lit, zi_add, zi_mul, zi_le, zi_lt, zi_cl, Nat.not_lt_zero, zn_nle, zn_yle, zn_nlt, zn_ylt, if_false, if_true, or_false, false_or, mz_bn, b1, mz_oms]
    rw [c1, mz_ob, e145, nI_add]
  refine ⟨_, fun j => if j = ns then B else AH j, k1, ⟨by omega, by rw [mz_u, if_pos ⟨rfl, rfl⟩], a4, fun j hj => ?_⟩, if_pos rfl, fun x hx => ?_⟩
  · dsimp only
    by_cases e : j = ns
    · subst e
      rw [if_pos rfl]
      exact ⟨zc_keep hB.1 b2 c3 (fun x x1 x2 => mz_ux _ (by omega)) rfl, hB⟩
    · rw [if_neg e]
      obtain ⟨g1, g3⟩ := a5 j (by omega)
      have hsep := a4.sep (show j < 4 by omega) hns e
      have hrj := a4.rng (show j < 4 by omega)
      exact ⟨zc_keep g3.1 (a4 j (by omega)).2.1 g1 (fun x x1 x2 => by rw [mz_ux _ (by omega), c2 x (by omega)]) rfl, g3⟩
  · rw [mz_ux _ (by omega), c2 x (by omega)]
def sp_n1 (ns : Nat) : Nat := if ns < 4 then ns else 3
theorem zl_add {I : Nat → Nat → Int32} {R : Nat → Nat → Option Nat} {F ns s : Nat} {AH : Nat → mz_A} {pt : Nat → Nat} {B : mz_A} (hF : 200 ≤ F) (h : zl_H I R ns AH pt) (hs : s + 18 ≤ 72) (hRs : zz_RW R s) (hC : zz_CS I R s B) (hB : zk_ok B) : ∃ I1 R1 AH1 pt1, mi_X3_add F I R s = some (I1, R1) ∧ zl_H I1 R1 (sp_n1 ns + 1) AH1 pt1 ∧ AH1 (sp_n1 ns) = B ∧ (∀ x, x < 72 ∨ x = 144 ∨ 146 ≤ x → I1 x = I x) ∧ (∀ x, x ≠ 146 → R1 x = R x) := by
  have h' := h
  obtain ⟨a1, a2, a4, a5⟩ := h
  unfold mi_X3_add
  rw [a2]
  by_cases c : ns < 4
  · rw [if_pos (show nI ns < 4 from zl_lt (b := 4) c (by omega)), show sp_n1 ns = ns from if_pos c]
    obtain ⟨I1, AH1, e1, e3, e3', e4⟩ := zl_add0 hF h' c hs hRs hC hB
    exact ⟨I1, R, AH1, pt, e1, e3, e3', e4, fun _ _ => rfl⟩
  · have hn4 : ns = 4 := by omega
    subst hn4
    rw [if_neg (by decide), show sp_n1 4 = 3 from rfl]
    obtain ⟨R1, d1, d2, d3⟩ := zc_dropL (I := I) (F := F) (fun j hj => (a4 j hj).1) F 0 R (by omega) (by omega) (fun _ _ => rfl) (fun j _ j2 => (a4 j j2).1) (fun j hj => by omega)
    have hdrop : mi_X3_dropOldest F I R = some (mc_u I 145 1 (nI 3), R1) := by
      unfold mi_X3_dropOldest
      rw [if_neg (show ¬ ((0 : Int32) < 0 ∨ 4 ≤ (0 : Int32).toNatClampNeg) by decide)]
      simp only [mz_bn]
      rw [show (0 : Int32).toNatClampNeg = 0 from rfl, (a4 0 (by omega)).1]
      exact d1
    rw [hdrop, mz_ob2]
    have hpt : zz_pt R1 (fun j => if j < 3 then pt (j + 1) else pt 0) := by
      intro j hj
      refine ⟨d3 j hj, ?_, ?_, fun i hi e => ?_⟩
      · dsimp only
        have hx : ∀ q, q < 4 → zz_RW R1 (pt q) := fun q hq => by
          have := a4.rng hq
          exact zc_RWkeep (a4 q hq).2.1 (d2 _ (by omega))
        split
        · exact hx _ (by omega)
        · exact hx _ (by omega)
      · dsimp only
        split
        · exact (a4 _ (by omega)).2.2.1
        · exact (a4 _ (by omega)).2.2.1
      · dsimp only at e
        by_cases ci : i < 3
        · rw [if_pos ci] at e
          by_cases cj : j < 3
          · rw [if_pos cj] at e
            have := (a4 (j + 1) (by omega)).2.2.2 (i + 1) (by omega) e
            omega
          · rw [if_neg cj] at e
            have := (a4 0 (by omega)).2.2.2 (i + 1) (by omega) e
            omega
        · rw [if_neg ci] at e
          by_cases cj : j < 3
          · rw [if_pos cj] at e
            have := (a4 (j + 1) (by omega)).2.2.2 0 (by omega) e
            omega
          · omega
    have hPH : zl_H (mc_u I 145 1 (nI 3)) R1 3 (fun j => AH (j + 1)) (fun j => if j < 3 then pt (j + 1) else pt 0) := by
      refine ⟨by omega, by rw [mz_u, if_pos ⟨rfl, rfl⟩], hpt, fun j hj => ?_⟩
      dsimp only
      rw [if_pos hj]
      obtain ⟨g1, g3⟩ := a5 (j + 1) (by omega)
      have hrj := a4.rng (show j + 1 < 4 by omega)
      exact ⟨zc_keep g3.1 (a4 (j + 1) (by omega)).2.1 g1 (fun x x1 x2 => mz_ux _ (by omega)) (d2 _ (by omega)), g3⟩
    have hCB : zz_CS (mc_u I 145 1 (nI 3)) R1 s B := zc_keep hB.1 hRs hC (fun x x1 x2 => mz_ux _ (by omega)) (d2 _ (by omega))
    obtain ⟨I1, AH1, e1, e3, e3', e4⟩ := zl_add0 hF hPH (by omega) hs (zc_RWkeep hRs (d2 _ (by omega))) hCB hB
    refine ⟨I1, R1, AH1, _, e1, e3, e3', fun x hx => ?_, d2⟩
    rw [e4 x hx, mz_ux _ (by omega)]
/-- an act of the class, and what it does to a state -/
def zl_is (C : (Nat → Nat → Int32) → (Nat → Nat → Option Nat) → Option ((Nat → Nat → Int32) × (Nat → Nat → Option Nat) × Int32)) (S : mz_A → mz_A × Int32) : Prop :=
  zl_ok S ∧ ∀ A, zk_ok A → ∀ I R, zz_CS I R 0 A → zz_RW R 0 → ∃ I1 R1, C I R = some (I1, R1, (S A).2) ∧ zz_fr 0 I I1 ∧ zz_frR 0 R R1 ∧ zz_RW R1 0 ∧ zz_CS I1 R1 0 (S A).1
/-- what an act of the object is: Q its mirror, S what it does to the state -/
def zl_act (Q : (Nat → Nat → Int32) → (Nat → Nat → Option Nat) → Option ((Nat → Nat → Int32) × (Nat → Nat → Option Nat) × Int32)) (S : mz_A → mz_A × Int32) : Prop :=
  zl_ok S ∧ ∀ I R A ns AH, zl_R I R A ns AH → ∃ I1 R1, Q I R = some (I1, R1, (S A).2) ∧ (((S A).2 ≤ -1001 ∧ (S A).1 = A ∧ zl_R I1 R1 A ns AH) ∨ (¬ (S A).2 ≤ -1001 ∧ ∃ AH1, zl_R I1 R1 (S A).1 (sp_n1 ns + 1) AH1 ∧ AH1 (sp_n1 ns) = A))
theorem zl_actI {C : (Nat → Nat → Int32) → (Nat → Nat → Option Nat) → Option ((Nat → Nat → Int32) × (Nat → Nat → Option Nat) × Int32)} {S : mz_A → mz_A × Int32} {F : Nat} (hF : 1100 ≤ F) (h : zl_is C S) : zl_act (fun I R => mc_ob (mi_X5_copyFrom F I R 18 0) fun I1 => mc_ob3 (C I1 R) fun I3 R4 r5 => mc_ob3 (mi_X8_recorded F I3 R4 r5) fun I7 R8 r9 => some (I7, R8, r9)) S := by
  refine ⟨h.1, fun I R A ns AH hRel => ?_⟩
  obtain ⟨hPR, hC, hok, pt, hX⟩ := hRel
  obtain ⟨hA1, hrf⟩ := h.1 A hok
  obtain ⟨I2, c1, c2, c3⟩ := zc_copyFrom (F := F) (by omega) hPR.2.1 hPR.1 (by omega) hok.1 hC
  have hC2 : zz_CS I2 R 0 A := zc_keep hok.1 hPR.1 hC (fun x x1 x2 => c2 x (by omega)) rfl
  obtain ⟨I3, R3, d1, d2, d3, d4, d5⟩ := h.2 A hok I2 R hC2 hPR.1
  dsimp only
  rw [c1, mz_ob, d1, mz_ob3]
  have hPR3 : zl_P R3 := hPR.keep d4 (fun x x1 x2 => d3 x (by omega))
  have hX3 : zl_H I3 R3 ns AH pt := hX.keep (fun x x1 x2 => by rw [d2 x (by omega), c2 x (by omega)]) (by rw [d2 145 (by omega), c2 145 (by omega)]) (fun x hx => d3 x (by omega))
  unfold mi_X8_recorded mi_X8_isDone
  by_cases cd : (S A).2 ≤ -1001
  · rw [if_pos cd, if_pos rfl, mz_ob3]
    refine ⟨I3, R3, rfl, Or.inl ⟨cd, hrf cd, hPR3, ?_, hok, pt, hX3⟩⟩
    rw [hrf cd] at d5
    exact d5
  · rw [if_neg cd, if_neg (show ¬ (1 : Int32) = 0 by decide)]
    have hC18 : zz_CS I3 R3 18 A := zc_keep hok.1 hPR.2.1 c3 (fun x x1 x2 => d2 x (by omega)) (d3 _ (by omega))
    obtain ⟨I4, R4, AH4, pt4, g1, g3, g3', g4, g5⟩ := zl_add (F := F) (by omega) hX3 (s := 18) (by omega) hPR3.2.1 hC18 hok
    rw [g1, mz_ob2, mz_ob3]
    refine ⟨I4, R4, rfl, Or.inr ⟨cd, AH4, ⟨⟨zc_RWkeep hPR3.1 (g5 _ (by omega)), zc_RWkeep hPR3.2.1 (g5 _ (by omega)), zc_RWkeep hPR3.2.2 (g5 _ (by omega))⟩, ?_, hA1, pt4, g3⟩, g3'⟩⟩
    exact zc_keep hA1.1 hPR3.1 d5 (fun x x1 x2 => g4 x (by omega)) (g5 _ (by omega))
theorem zl_undo {I : Nat → Nat → Int32} {R : Nat → Nat → Option Nat} {A : mz_A} {F m : Nat} {AH : Nat → mz_A} (hF : 1100 ≤ F) (h : zl_R I R A (m + 1) AH) : ∃ I1, mi_X8_undo F I R = some (I1, nI m) ∧ zl_R I1 R (AH m) m AH := by
  obtain ⟨hPR, hC, hok, pt, hX⟩ := h
  obtain ⟨a1, a2, a4, a5⟩ := id hX
  unfold mi_X8_undo mi_X3_takeLatest
  rw [a2]
  simp only [mz_bn]
  obtain ⟨b1, b2, b3, b4⟩ := a4 m (by omega)
  obtain ⟨g1, g3⟩ := a5 m (by omega)
  have hrg := a4.rng (show m < 4 by omega)
  rw [show nI (m + 1) - 1 = nI m from pk_sub (a := m + 1) (b := 1) (by omega), if_neg (show ¬ nI m < 0 from zl_nlt (b := 0) (by omega) (by omega)), if_neg (show ¬ (4 : Int32) ≤ nI m from zl_nle (a := 4) (by omega) (by omega))]
  have e0 : (nI m < 0 ∨ 4 ≤ (nI m).toNatClampNeg) = False := by simp (disch := omega) only [zi_lit, zi_add, zi_mul, zi_le, zi_lt, zi_cl, Nat.not_lt_zero, zn_nle, zn_yle, zn_nlt, zn_ylt, if_false, if_true, or_false, false_or, mz_bn]
  simp only [e0, if_false]
  rw [zi_cl (show m < 2147483648 by omega), b1]
  unfold mi_X3_takeLatest_J26
  rw [mz_oms]
  obtain ⟨I2, c1, c2, c3⟩ := zc_copyFrom (F := F) (by omega) hPR.1 b2 (by omega) g3.1 g1
  rw [c1, mz_ob, mz_bn, mz_ob2, if_neg (show ¬ (1 : Int32) = 0 by decide)]
  have hu : mc_u I2 145 1 (nI m) 145 1 = nI m := by rw [mz_u, if_pos ⟨rfl, rfl⟩]
  rw [hu]
  refine ⟨mc_u I2 145 1 (nI m), rfl, hPR, ?_, g3, pt, ⟨by omega, hu, a4, fun j hj => ?_⟩⟩
  · exact zc_keep g3.1 hPR.1 c3 (fun x x1 x2 => mz_ux _ (by omega)) rfl
  · obtain ⟨y1, y3⟩ := a5 j (by omega)
    have hrj := a4.rng (show j < 4 by omega)
    exact ⟨zc_keep y3.1 (a4 j (by omega)).2.1 y1 (fun x x1 x2 => by rw [mz_ux _ (by omega), c2 x (by omega)]) rfl, y3⟩
theorem zl_R.ask {I I1 : Nat → Nat → Int32} {R : Nat → Nat → Option Nat} {A : mz_A} {ns : Nat} {AH : Nat → mz_A} (h : zl_R I R A ns AH) (hI : zz_fr 36 I I1) : zl_R I1 R A ns AH := by
  obtain ⟨hPR, hC, hok, pt, hX⟩ := h
  exact ⟨hPR, zc_keep hok.1 hPR.1 hC (fun x x1 x2 => hI x (by omega)) rfl, hok, pt, hX.keep (fun x x1 x2 => hI x (by omega)) (by rw [hI 145 (by omega)]) (fun _ _ => rfl)⟩
/-! the acts -/
theorem zm_pay {F : Nat} (hF : 1100 ≤ F) (x : Int32) : zl_act (fun I R => mi_X8_pay F I R x) (sq_pay x) := by
  have h : zl_is (fun I R => mc_ob2 (mi_X5_payOut F I R 0 x) fun I3 r4 => some (I3, R, r4)) (sq_pay x) := by
    refine ⟨zl_pay x, fun A hok I R hC hR => ?_⟩
    obtain ⟨I1, e1, e2, e3⟩ := zc_pay (F := F) (by omega) x hC hR hok.1
    exact ⟨I1, R, by dsimp only; rw [e1]; rfl, e2, za_frR, hR, e3⟩
  have h2 := zl_actI hF h
  refine ⟨h2.1, fun I R A ns AH hR => ?_⟩
  obtain ⟨I1, R1, a, b⟩ := h2.2 I R A ns AH hR
  refine ⟨I1, R1, ?_, b⟩
  rw [← a]
  unfold mi_X8_pay
  dsimp only
  congr 1
  funext I2
  generalize (mi_X5_payOut F I2 R 0 x) = z
  cases z <;> rfl
theorem zm_send {F : Nat} (hF : 1100 ≤ F) : zl_act (fun I R => mi_X8_send F I R) sq_send := by
  have h : zl_is (fun I R => mc_ob2 (mi_X5_letGo I 0) fun I3 r4 => some (I3, R, r4)) sq_send := by
    refine ⟨zl_send, fun A hok I R hC hR => ?_⟩
    obtain ⟨I1, e1, e2, e3⟩ := zc_send hC hR hok.1
    exact ⟨I1, R, by dsimp only; rw [e1]; rfl, e2, za_frR, hR, e3⟩
  have h2 := zl_actI hF h
  refine ⟨h2.1, fun I R A ns AH hR => ?_⟩
  obtain ⟨I1, R1, a, b⟩ := h2.2 I R A ns AH hR
  refine ⟨I1, R1, ?_, b⟩
  rw [← a]
  unfold mi_X8_send
  dsimp only
  congr 1
  funext I2
  generalize (mi_X5_letGo I2 0) = z
  cases z <;> rfl
theorem zm_pass {F : Nat} (hF : 1100 ≤ F) (x : Int32) : zl_act (fun I R => mi_X8_pass F I R x) (sq_pass x) := by
  have h : zl_is (fun I R => mc_ob2 (mi_X5_letPass F I R 0 x) fun I3 r4 => some (I3, R, r4)) (sq_pass x) := by
    refine ⟨zl_pass x, fun A hok I R hC hR => ?_⟩
    obtain ⟨s, hs1, hs2⟩ := hok.old.2
    obtain ⟨I1, e1, e2, e3⟩ := zc_pass (F := F) (by omega) x hC hR hok.1 hs2 hs1
    exact ⟨I1, R, by dsimp only; rw [e1]; rfl, e2, za_frR, hR, e3⟩
  have h2 := zl_actI hF h
  refine ⟨h2.1, fun I R A ns AH hR => ?_⟩
  obtain ⟨I1, R1, a, b⟩ := h2.2 I R A ns AH hR
  refine ⟨I1, R1, ?_, b⟩
  rw [← a]
  unfold mi_X8_pass
  dsimp only
  congr 1
  funext I2
  generalize (mi_X5_letPass F I2 R 0 x) = z
  cases z <;> rfl
theorem zm_setWater {F : Nat} (hF : 1100 ≤ F) (k w v : Int32) : zl_act (fun I R => mi_X8_setWater F I R k w v) (sq_water k w v) := by
  have h : zl_is (fun I R => mc_ob2 (mi_X7_change I 2 k w v) fun I3 r4 => some (I3, R, r4)) (sq_water k w v) := by
    refine ⟨zl_water k w v, fun A hok I R hC hR => ?_⟩
    obtain ⟨I1, e1, e2, e3⟩ := zc_water (a := 0) k w v hC hR hok.1
    exact ⟨I1, R, by dsimp only; rw [show mi_X7_change I 2 k w v = _ from e1]; rfl, e2, za_frR, hR, e3⟩
  have h2 := zl_actI hF h
  refine ⟨h2.1, fun I R A ns AH hR => ?_⟩
  obtain ⟨I1, R1, a, b⟩ := h2.2 I R A ns AH hR
  refine ⟨I1, R1, ?_, b⟩
  rw [← a]
  unfold mi_X8_setWater
  dsimp only
  congr 1
  funext I2
  generalize (mi_X7_change I2 2 k w v) = z
  cases z <;> rfl
theorem zm_setSlope {F : Nat} (hF : 1100 ≤ F) (x : Int32) : zl_act (fun I R => mi_X8_setSlope F I R x) (sq_slope x) := by
  have h : zl_is (fun I R => mc_bn2 (mi_X5_changeSlope I 0 x) fun I3 r4 => some (I3, R, r4)) (sq_slope x) := by
    refine ⟨zl_slope x, fun A hok I R hC hR => ?_⟩
    obtain ⟨I1, e1, e2, e3⟩ := zc_slope x hC hR hok.1
    exact ⟨I1, R, by dsimp only; rw [e1]; rfl, e2, za_frR, hR, e3⟩
  exact zl_actI hF h
theorem zm_set {F : Nat} (hF : 1100 ≤ F) (w v : Int32) : zl_act (fun I R => mi_X8_set F I R w v) (sq_set w v) := by
  have h : zl_is (fun I R => mc_bn2 (mi_X5_changeSetting I 0 w v) fun I3 r4 => some (I3, R, r4)) (sq_set w v) := by
    refine ⟨zl_set w v, fun A hok I R hC hR => ?_⟩
    obtain ⟨I1, e1, e2, e3⟩ := zc_set w v hC hR hok.1
    exact ⟨I1, R, by dsimp only; rw [e1]; rfl, e2, za_frR, hR, e3⟩
  exact zl_actI hF h
theorem zm_weight {F x : Nat} (hF : 1100 ≤ F) (hx : x ≤ 1) : zl_act (fun I R => mi_X8_weight F I R (nI x)) (sq_weight x) := by
  have h : zl_is (fun I R => mc_ob2 (mi_X5_changeWeight I 0 (nI x)) fun I3 r4 => some (I3, R, r4)) (sq_weight x) := by
    refine ⟨zl_weight hx, fun A hok I R hC hR => ?_⟩
    obtain ⟨I1, e1, e2, e3⟩ := zc_weight hx hC hR hok.1
    exact ⟨I1, R, by dsimp only; rw [e1]; rfl, e2, za_frR, hR, e3⟩
  have h2 := zl_actI hF h
  refine ⟨h2.1, fun I R A ns AH hR => ?_⟩
  obtain ⟨I1, R1, a, b⟩ := h2.2 I R A ns AH hR
  refine ⟨I1, R1, ?_, b⟩
  rw [← a]
  unfold mi_X8_weight
  dsimp only
  congr 1
  funext I2
  generalize (mi_X5_changeWeight I2 0 (nI x)) = z
  cases z <;> rfl
theorem zm_clamp {F x : Nat} (hF : 1100 ≤ F) (hx : x ≤ 1) : zl_act (fun I R => mi_X8_clamp F I R (nI x)) (sq_clamp x) := by
  have h : zl_is (fun I R => mi_X5_addBottle F I R 0 (nI x)) (sq_clamp x) := by
    refine ⟨zl_clamp hx, fun A hok I R hC hR => ?_⟩
    exact zc_clamp (by omega) hx hC hR hok.1
  exact zl_actI hF h
theorem zm_takeOff {F : Nat} (hF : 1100 ≤ F) (x : Int32) : zl_act (fun I R => mi_X8_takeOff F I R x) (sq_take x) := by
  have h : zl_is (fun I R => mi_X5_removeBottle F I R 0 x) (sq_take x) := by
    refine ⟨zl_take x, fun A hok I R hC hR => ?_⟩
    exact zc_take (by omega) x hC hR hok.1
  exact zl_actI hF h
/-! what the object tells -/
section OBJ
variable {I : Nat → Nat → Int32} {R : Nat → Nat → Option Nat} {A : mz_A} {F ns : Nat} {AH : Nat → mz_A}
theorem zl_R.st (h : zl_R I R A ns AH) : I 145 1 = nI ns := by
  obtain ⟨hPR, hC, hok, pt, hX⟩ := h
  exact hX.2.1
theorem zl_R.ns4 (h : zl_R I R A ns AH) : ns ≤ 4 := by
  obtain ⟨hPR, hC, hok, pt, hX⟩ := h
  exact hX.1
theorem zl_R.ok (h : zl_R I R A ns AH) : zk_ok A := h.2.2.1
theorem zl_R.count (h : zl_R I R A ns AH) (hF : 1100 ≤ F) (w : Nat) (hw : w ≤ 17) : mi_X8_count F I R (nI w) = some (sv_cnt ns A w) := zk_count (by omega) h.2.1 h.1.1 h.2.2.1.1 h.st hw
theorem zl_R.bottle (h : zl_R I R A ns AH) {k j : Nat} (hk : k < mz_nb A) (hj : j ≤ 13) : mi_X8_bottle I R (nI k) (nI j) = some (sv_bot A k j) := zk_bottle h.2.1 h.1.1 h.2.2.1.1 hk hj
theorem zl_R.layer (h : zl_R I R A ns AH) (hF : 1100 ≤ F) {j q : Nat} (hj : j ≤ 9) (hq : q ≤ 3) : mi_X8_layer F I R (nI j) (nI q) = some (sv_lay A j q) := zk_layer (by omega) h.2.1 h.1.1 h.2.2.1.1 hj hq
theorem zl_R.worst (h : zl_R I R A ns AH) (hF : 1100 ≤ F) : mi_X8_worst F I R = some (sv_wor A) := zk_worst (by omega) h.2.1 h.1.1 h.2.2.1.1
theorem zl_R.print (h : zl_R I R A ns AH) (hF : 1100 ≤ F) : mi_L_print F I R = some (sv_pr A) := zk_print (by omega) h.2.1 h.1.1 h.2.2.1.1 h.st
end OBJ

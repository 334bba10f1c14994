/-! the relation, and the acts -/
def zz_PN (I : Nat → Nat → Int32) (R : Nat → Nat → Option Nat) (J : Nat → Nat → Int32) : Prop := ∃ A, zz_CS I R 0 A ∧ zz_RS J 0 A ∧ zz_ok A
def zz_PR (R : Nat → Nat → Option Nat) : Prop := zz_RW R 0 ∧ zz_RW R 18 ∧ zz_RW R 36 ∧ zz_RW R 54
def zz_PX (I : Nat → Nat → Int32) (R : Nat → Nat → Option Nat) (J : Nat → Nat → Int32) : Prop := ∃ ns AH pt, zz_PH I R J ns AH pt
def zz_PK (I : Nat → Nat → Int32) (R : Nat → Nat → Option Nat) (J : Nat → Nat → Int32) : Prop := (I 144 4 = 0 ∧ J 0 2 = 0) ∨ (I 144 4 = 1 ∧ J 0 2 = 1 ∧ ∃ A, zz_CS I R 54 A ∧ zz_RS J 885 A ∧ zz_ok A)
def zz_PT (I : Nat → Nat → Int32) (J : Nat → Nat → Int32) : Prop := ∃ tl, tl ≤ 60 ∧ I 147 1 = nI tl ∧ J 0 4 = nI tl ∧ ∀ k, k < tl → ∃ c, c < 65536 ∧ I 148 k = nI c ∧ J 2 k = nI c
def zz_PS (I : Nat → Nat → Int32) (J : Nat → Nat → Int32) : Prop := (I 144 8 = 0 ∧ J 0 5 = -1005 ∧ J 0 6 = -1005) ∨ (I 144 8 = 1 ∧ I 144 9 = J 0 5 ∧ I 144 10 = J 0 6)
def zz_Rel (I : Nat → Nat → Int32) (R : Nat → Nat → Option Nat) (J : Nat → Nat → Int32) : Prop := zz_PR R ∧ zz_PN I R J ∧ zz_PX I R J ∧ zz_PK I R J ∧ zz_PT I J ∧ zz_PS I J
theorem zz_PK.keep {I I1 : Nat → Nat → Int32} {R R1 : Nat → Nat → Option Nat} {J J1 : Nat → Nat → Int32} (h : zz_PK I R J) (hR54 : zz_RW R 54) (hI : ∀ x, 54 ≤ x → x < 72 → I1 x = I x) (hI2 : I1 144 4 = I 144 4) (hR : R1 61 = R 61) (hJ0 : J1 0 2 = J 0 2) (hJ : ∀ i, 885 ≤ i → i < 1062 → J1 1 i = J 1 i) : zz_PK I1 R1 J1 := by
  rcases h with ⟨a, b⟩ | ⟨a, b, A, c, d, e⟩
  · exact Or.inl ⟨by rw [hI2]; exact a, by rw [hJ0]; exact b⟩
  · exact Or.inr ⟨by rw [hI2]; exact a, by rw [hJ0]; exact b, A, zc_keep e.1 hR54 c (fun x x1 x2 => hI x x1 x2) hR, zr_keep e.1 d (fun i i1 i2 => hJ i i1 i2), e⟩
theorem zz_PT.keep {I I1 : Nat → Nat → Int32} {J J1 : Nat → Nat → Int32} (h : zz_PT I J) (h1 : I1 147 1 = I 147 1) (h2 : I1 148 = I 148) (h3 : J1 0 4 = J 0 4) (h4 : J1 2 = J 2) : zz_PT I1 J1 := by
  obtain ⟨tl, a, b, c, d⟩ := h
  exact ⟨tl, a, by rw [h1]; exact b, by rw [h3]; exact c, fun k hk => by rw [h2, h4]; exact d k hk⟩
theorem zz_PS.keep {I I1 : Nat → Nat → Int32} {J J1 : Nat → Nat → Int32} (h : zz_PS I J) (h1 : I1 144 = I 144) (h3 : J1 0 5 = J 0 5) (h4 : J1 0 6 = J 0 6) : zz_PS I1 J1 := by
  unfold zz_PS
  rw [h1, h3, h4]
  exact h
theorem zz_PR.keep {R R1 : Nat → Nat → Option Nat} (h : zz_PR R) (h0 : zz_RW R1 0) (h1 : ∀ x, 18 ≤ x → x < 72 → R1 x = R x) : zz_PR R1 :=
  ⟨h0, zc_RWkeep h.2.1 (h1 _ (by omega) (by omega)), zc_RWkeep h.2.2.1 (h1 _ (by omega) (by omega)), zc_RWkeep h.2.2.2 (h1 _ (by omega) (by omega))⟩
theorem za_rest {I I1 : Nat → Nat → Int32} {R R1 : Nat → Nat → Option Nat} {J J1 : Nat → Nat → Int32} (hPR : zz_PR R) (h1 : zz_PX I R J) (h2 : zz_PK I R J) (h3 : zz_PT I J) (h4 : zz_PS I J) (hI : ∀ x, 54 ≤ x → x < 149 → I1 x = I x) (hR : ∀ x, 54 ≤ x → R1 x = R x) (hJ0 : ∀ j, j ≠ 7 → j ≠ 8 → J1 0 j = J 0 j) (hJ : ∀ i, 177 ≤ i → i < 1062 → J1 1 i = J 1 i) (hJ2 : J1 2 = J 2) : zz_PX I1 R1 J1 ∧ zz_PK I1 R1 J1 ∧ zz_PT I1 J1 ∧ zz_PS I1 J1 := by
  obtain ⟨ns, AH, pt, h⟩ := h1
  exact ⟨⟨ns, AH, pt, h.keep (fun x x1 x2 => hI x (by omega) (by omega)) (by rw [hI _ (by omega) (by omega)]) (fun x hx => hR x (by omega)) (hJ0 1 (by omega) (by omega)) (fun i i1 i2 => hJ i (by omega) (by omega))⟩,
    h2.keep hPR.2.2.2 (fun x x1 x2 => hI x (by omega) (by omega)) (by rw [hI _ (by omega) (by omega)]) (hR _ (by omega)) (hJ0 2 (by omega) (by omega)) (fun i i1 i2 => hJ i (by omega) (by omega)),
    h3.keep (by rw [hI _ (by omega) (by omega)]) (hI _ (by omega) (by omega)) (hJ0 4 (by omega) (by omega)) hJ2, h4.keep (hI _ (by omega) (by omega)) (hJ0 5 (by omega) (by omega)) (hJ0 6 (by omega) (by omega))⟩
/-- an act of the class and of the reference, and what it does to a state -/
def za_is (C : (Nat → Nat → Int32) → (Nat → Nat → Option Nat) → Option ((Nat → Nat → Int32) × (Nat → Nat → Option Nat) × Int32)) (Q : (Nat → Nat → Int32) → Option ((Nat → Nat → Int32) × Int32)) (S : mz_A → mz_A × Int32) : Prop :=
  ∀ A, zz_ok A → zz_ok (S A).1 ∧ (∀ I R, zz_CS I R 0 A → zz_RW R 0 → ∃ I1 R1, C I R = some (I1, R1, (S A).2) ∧ zz_fr 0 I I1 ∧ zz_frR 0 R R1 ∧ zz_RW R1 0 ∧ zz_CS I1 R1 0 (S A).1) ∧ (∀ J, zz_RS J 0 A → ∃ J1, Q J = some (J1, (S A).2) ∧ zz_frJ 0 J J1 ∧ zz_RS J1 0 (S A).1)
theorem za_isDone (x : Int32) : mi_X9_isDone x = mi_X8_isDone x := rfl
theorem za_act {C : (Nat → Nat → Int32) → (Nat → Nat → Option Nat) → Option ((Nat → Nat → Int32) × (Nat → Nat → Option Nat) × Int32)} {Q : (Nat → Nat → Int32) → Option ((Nat → Nat → Int32) × Int32)} {S : mz_A → mz_A × Int32} {F : Nat} (hF : 1100 ≤ F) (h : za_is C Q S) {I : Nat → Nat → Int32} {R : Nat → Nat → Option Nat} {J : Nat → Nat → Int32} (hRel : zz_Rel I R J) : ∃ I1 R1 J1 r, (mc_ob (mi_X5_copyFrom F I R 18 0) fun I1 => mc_ob3 (C I1 R) fun I3 R4 r5 => mc_ob3 (mi_X8_recorded F I3 R4 r5) fun I7 R8 r9 => some (I7, R8, r9)) = some (I1, R1, r) ∧ (mc_ob (mi_X9_copies F J 0 6) fun I1 => mc_ob2 (Q I1) fun I3 r4 => mc_ob2 (mi_X9_done F I3 r4) fun I6 r7 => some (I6, r7)) = some (J1, r) ∧ zz_Rel I1 R1 J1 := by
  obtain ⟨hPR, ⟨A, hC, hJ, hok⟩, hX, hK, hT, hS⟩ := hRel
  obtain ⟨hA1, hA2, hA3⟩ := h A hok
  obtain ⟨I2, c1, c2, c3⟩ := zc_copyFrom (F := F) (by omega) hPR.2.1 hPR.1 (by omega) hok.1 hC
  have hC2 : zz_CS I2 R 0 A := zc_keep hok.1 hPR.1 hC (fun x x1 x2 => c2 x (by omega)) rfl
  obtain ⟨I3, R3, d1, d2, d3, d4, d5⟩ := hA2 I2 R hC2 hPR.1
  obtain ⟨J2, e1, e2, e3⟩ := zr_copies (J := J) (F := F) (r1 := 0) (r2 := 6) (by omega) (by omega) (by omega) (by omega)
  have hJ2 : zz_RS J2 0 A := zr_keep hok.1 hJ (fun i i1 i2 => e2.2 i (by omega))
  have hJ26 : zz_RS J2 1062 A := zr_like hok.1 hJ (fun j hj => by have := e3 j hj; exact this)
  obtain ⟨J3, f1, f2, f3⟩ := hA3 J2 hJ2
  rw [c1, mz_ob, d1, mz_ob3, show mi_X9_copies F J 0 6 = some J2 from e1, mz_ob, f1, mz_ob2]
  have hPR3 : zz_PR R3 := hPR.keep d4 (fun x x1 x2 => d3 x (by omega))
  obtain ⟨k1, k2, k3, k4⟩ := za_rest (I1 := I3) (R1 := R3) (J1 := J3) hPR hX hK hT hS (fun x x1 x2 => by rw [d2 x (by omega), c2 x (by omega)]) (fun x hx => d3 x (by omega)) (fun j _ _ => by rw [f2.1 0 (by omega), e2.1 0 (by omega)]) (fun i i1 i2 => by rw [f2.2 i (by omega), e2.2 i (by omega)]) (by rw [f2.1 2 (by omega), e2.1 2 (by omega)])
  unfold mi_X8_recorded mi_X9_done
  rw [za_isDone]
  by_cases cd : mi_X8_isDone (S A).2 = 0
  · rw [if_pos cd, if_pos cd, mz_ob3, mz_ob2]
    exact ⟨I3, R3, J3, _, rfl, rfl, hPR3, ⟨_, d5, f3, hA1⟩, k1, k2, k3, k4⟩
  · rw [if_neg cd, if_neg cd]
    obtain ⟨ns, AH, pt, hPH⟩ := k1
    have hC18 : zz_CS I3 R3 18 A := zc_keep hok.1 hPR.2.1 c3 (fun x x1 x2 => d2 x (by omega)) (d3 _ (by omega))
    have hJ6 : zz_RS J3 (177 * 6) A := zr_keep hok.1 hJ26 (fun i i1 i2 => f2.2 i (by omega))
    obtain ⟨I4, R4, J4, ns4, AH4, pt4, g1, g2, g3, g4, g5, g6, g7, g8⟩ := za_add (F := F) (r := 6) (by omega) hPH (s := 18) (by omega) (Or.inr rfl) hPR3.2.1 hC18 hJ6 hok
    rw [g1, mz_ob2, mz_ob3, show mi_X9_records F J3 6 = some J4 from g2, mz_ob, mz_ob2]
    refine ⟨I4, R4, J4, _, rfl, rfl, ?_, ⟨_, ?_, ?_, hA1⟩, ⟨ns4, AH4, pt4, g3⟩, ?_, ?_, ?_⟩
    · exact ⟨zc_RWkeep hPR3.1 (g5 _ (by omega)), zc_RWkeep hPR3.2.1 (g5 _ (by omega)), zc_RWkeep hPR3.2.2.1 (g5 _ (by omega)), zc_RWkeep hPR3.2.2.2 (g5 _ (by omega))⟩
    · exact zc_keep hA1.1 hPR3.1 d5 (fun x x1 x2 => g4 x (by omega)) (g5 _ (by omega))
    · exact zr_keep hA1.1 f3 (fun i i1 i2 => g8 i (by omega))
    · exact k2.keep hPR3.2.2.2 (fun x x1 x2 => g4 x (by omega)) (by rw [g4 _ (by omega)]) (g5 _ (by omega)) (g7 2 (by omega)) (fun i i1 i2 => g8 i (by omega))
    · exact k3.keep (by rw [g4 _ (by omega)]) (g4 _ (by omega)) (g7 4 (by omega)) (g6 2 (by omega) (by omega))
    · exact k4.keep (g4 _ (by omega)) (g7 5 (by omega)) (g7 6 (by omega))
/-! each act -/
theorem za_frR {a : Nat} {R : Nat → Nat → Option Nat} : zz_frR a R R := fun _ _ => rfl
theorem zs_slope {A : mz_A} (x : Int32) (h : zz_sec A) : zz_sec (sq_slope x A).1 := by
  obtain ⟨p, sl, lo, nb, nm, mb, ms, sc, bt⟩ := A
  unfold sq_slope
  dsimp only
  split
  · exact h
  · split <;> exact h
theorem zs_weight {A : mz_A} (x : Nat) (h : zz_sec A) : zz_sec (sq_weight x A).1 := by
  obtain ⟨p, sl, lo, nb, nm, mb, ms, sc, bt⟩ := A
  unfold sq_weight
  dsimp only
  split
  · exact h
  · split <;> exact h
theorem zs_up {p sl lo nb nm : Nat} {mb ms : Nat → Nat} {sc : Nat → Int32} {bt : Nat → Nat → Int32} {q p1 sl1 lo1 nb1 nm1 : Nat} {mb1 ms1 : Nat → Nat} {bt1 : Nat → Nat → Int32} {v : Int32} (hq : q ≠ 0) (h : zz_sec (p, sl, lo, nb, nm, mb, ms, sc, bt)) : zz_sec (p1, sl1, lo1, nb1, nm1, mb1, ms1, va_up sc q v, bt1) := by
  obtain ⟨s, h1, h2⟩ := h
  exact ⟨s, h1, (va_up_ne sc v (fun e => hq e.symm)).trans h2⟩
theorem zs_set {A : mz_A} (w v : Int32) (h : zz_sec A) : zz_sec (sq_set w v A).1 := by
  obtain ⟨p, sl, lo, nb, nm, mb, ms, sc, bt⟩ := A
  unfold sq_set
  dsimp only
  split
  · exact h
  · split
    · exact h
    · split
      · exact h
      · exact zs_up (by unfold sp_ix; split <;> omega) h
theorem zs_water {A : mz_A} (k w s : Int32) (h : zz_sec A) : zz_sec (sq_water k w s A).1 := by
  obtain ⟨p, sl, lo, nb, nm, mb, ms, sc, bt⟩ := A
  unfold sq_water
  dsimp only
  split
  · exact h
  · split
    · exact h
    · split
      · exact h
      · exact zs_up (by omega) (zs_up (by omega) h : zz_sec (p, sl, lo, nb, nm, mb, ms, _, bt))
theorem zs_send {A : mz_A} (h : zz_sec A) : zz_sec (sq_send A).1 := by
  obtain ⟨p, sl, lo, nb, nm, mb, ms, sc, bt⟩ := A
  unfold sq_send
  dsimp only
  split
  · exact h
  · split
    · exact h
    · exact zs_up (by omega) h
theorem zs_pay {A : mz_A} (x : Int32) (h : zz_sec A) : zz_sec (sq_pay x A).1 := by
  obtain ⟨p, sl, lo, nb, nm, mb, ms, sc, bt⟩ := A
  unfold sq_pay
  dsimp only
  split
  · exact h
  · split
    · exact h
    · split
      · exact h
      · exact zs_up (by omega) h
theorem zs_clamp {A : mz_A} (x : Nat) (h : zz_sec A) : zz_sec (sq_clamp x A).1 := by
  obtain ⟨p, sl, lo, nb, nm, mb, ms, sc, bt⟩ := A
  unfold sq_clamp
  dsimp only
  split
  · exact h
  · split <;> exact h
theorem zs_take {A : mz_A} (x : Int32) (h : zz_sec A) : zz_sec (sq_take x A).1 := by
  obtain ⟨p, sl, lo, nb, nm, mb, ms, sc, bt⟩ := A
  unfold sq_take
  dsimp only
  split
  · exact h
  · split <;> exact h
theorem za_pay {F : Nat} (hF : 1100 ≤ F) (x : Int32) : za_is (fun I R => mc_ob2 (mi_X5_payOut F I R 0 x) fun I3 r4 => some (I3, R, r4)) (fun J => mi_X9_pays F J x) (sq_pay x) := by
  intro A hok
  refine ⟨⟨zw_pay x hok.1, zs_pay x hok.2⟩, fun I R hC hR => ?_, fun J hJ => zr_pay (by omega) x hJ hok.1⟩
  obtain ⟨I1, e1, e2, e3⟩ := zc_pay (F := F) (by omega) x hC hR hok.1
  exact ⟨I1, R, by dsimp only; rw [e1]; rfl, e2, za_frR, hR, e3⟩
theorem za_slope (x : Int32) : za_is (fun I R => mc_bn2 (mi_X5_changeSlope I 0 x) fun I3 r4 => some (I3, R, r4)) (fun J => mi_X9_slopes J x) (sq_slope x) := by
  intro A hok
  refine ⟨⟨zw_slope x hok.1, zs_slope x hok.2⟩, fun I R hC hR => ?_, fun J hJ => zr_slope x hJ hok.1⟩
  obtain ⟨I1, e1, e2, e3⟩ := zc_slope x hC hR hok.1
  exact ⟨I1, R, by dsimp only; rw [e1]; rfl, e2, za_frR, hR, e3⟩
theorem za_weight {x : Nat} (hx : x ≤ 1) : za_is (fun I R => mc_ob2 (mi_X5_changeWeight I 0 (nI x)) fun I3 r4 => some (I3, R, r4)) (fun J => mi_X9_weighs J (nI x)) (sq_weight x) := by
  intro A hok
  refine ⟨⟨zw_weight hx hok.1, zs_weight x hok.2⟩, fun I R hC hR => ?_, fun J hJ => zr_weight hx hJ hok.1⟩
  obtain ⟨I1, e1, e2, e3⟩ := zc_weight hx hC hR hok.1
  exact ⟨I1, R, by dsimp only; rw [e1]; rfl, e2, za_frR, hR, e3⟩
theorem za_clamp {F x : Nat} (hF : 1100 ≤ F) (hx : x ≤ 1) : za_is (fun I R => mi_X5_addBottle F I R 0 (nI x)) (fun J => mi_X9_clamps F J (nI x)) (sq_clamp x) := by
  intro A hok
  exact ⟨⟨zw_clamp hx hok.1, zs_clamp x hok.2⟩, fun I R hC hR => zc_clamp (by omega) hx hC hR hok.1, fun J hJ => zr_clamp (by omega) hJ hok.1⟩
theorem za_take {F : Nat} (hF : 1100 ≤ F) (x : Int32) : za_is (fun I R => mi_X5_removeBottle F I R 0 x) (fun J => mi_X9_takes F J x) (sq_take x) := by
  intro A hok
  exact ⟨⟨zw_take x hok.1, zs_take x hok.2⟩, fun I R hC hR => zc_take (by omega) x hC hR hok.1, fun J hJ => zr_take (by omega) x hJ hok.1⟩
theorem za_send {F : Nat} (hF : 1100 ≤ F) : za_is (fun I R => mc_ob2 (mi_X5_letGo I 0) fun I3 r4 => some (I3, R, r4)) (fun J => mi_X9_sends F J) sq_send := by
  intro A hok
  refine ⟨⟨zw_send hok.1, zs_send hok.2⟩, fun I R hC hR => ?_, fun J hJ => zr_send (by omega) hJ hok.1⟩
  obtain ⟨I1, e1, e2, e3⟩ := zc_send hC hR hok.1
  exact ⟨I1, R, by dsimp only; rw [e1]; rfl, e2, za_frR, hR, e3⟩
theorem za_pass {F : Nat} (hF : 1100 ≤ F) (x : Int32) : za_is (fun I R => mc_ob2 (mi_X5_letPass F I R 0 x) fun I3 r4 => some (I3, R, r4)) (fun J => mi_X9_passes F J x) (sq_pass x) := by
  intro A hok
  obtain ⟨s, hs1, hs2⟩ := hok.2
  refine ⟨⟨zw_pass x hok.1, ?_⟩, fun I R hC hR => ?_, fun J hJ => zr_pass (by omega) x hJ hok.1 hs2 hs1⟩
  · obtain ⟨s1, a1, a2⟩ := sq_pass_s0 (x := x) hs2 hs1
    exact ⟨s1, a1, a2⟩
  · obtain ⟨I1, e1, e2, e3⟩ := zc_pass (F := F) (by omega) x hC hR hok.1 hs2 hs1
    exact ⟨I1, R, by dsimp only; rw [e1]; rfl, e2, za_frR, hR, e3⟩
theorem za_water (k w s : Int32) : za_is (fun I R => mc_ob2 (mi_X7_change I 2 k w s) fun I3 r4 => some (I3, R, r4)) (fun J => mi_X9_waters J k w s) (sq_water k w s) := by
  intro A hok
  refine ⟨⟨zw_water k w s hok.1, zs_water k w s hok.2⟩, fun I R hC hR => ?_, fun J hJ => zr_water k w s hJ hok.1⟩
  obtain ⟨I1, e1, e2, e3⟩ := zc_water (a := 0) k w s hC hR hok.1
  exact ⟨I1, R, by dsimp only; rw [show mi_X7_change I 2 k w s = _ from e1]; rfl, e2, za_frR, hR, e3⟩
theorem za_set (w v : Int32) : za_is (fun I R => mc_bn2 (mi_X5_changeSetting I 0 w v) fun I3 r4 => some (I3, R, r4)) (fun J => mi_X9_sets J w v) (sq_set w v) := by
  intro A hok
  refine ⟨⟨zw_set w v hok.1, zs_set w v hok.2⟩, fun I R hC hR => ?_, fun J hJ => zr_set w v hJ hok.1⟩
  obtain ⟨I1, e1, e2, e3⟩ := zc_set w v hC hR hok.1
  exact ⟨I1, R, by dsimp only; rw [e1]; rfl, e2, za_frR, hR, e3⟩
theorem za_b2 {α β : Type} (z : Option ((Nat → Nat → Int32) × Int32)) (R : Nat → Nat → Option Nat) (k : (Nat → Nat → Int32) → (Nat → Nat → Option Nat) → Int32 → Option β) : mc_ob3 (mc_ob2 z fun I3 r4 => some (I3, R, r4)) k = mc_ob2 z fun I3 r4 => k I3 R r4 := by
  cases z with
  | none => rfl
  | some q => rfl
theorem za_flag {x : Int32} (h : x = 0 ∨ x = 1) : ∃ n, n ≤ 1 ∧ x = nI n ∧ mi_X9_flag x = nI n := by
  rcases h with rfl | rfl
  · exact ⟨0, by omega, rfl, rfl⟩
  · exact ⟨1, by omega, rfl, rfl⟩
theorem zo_pay {F : Nat} (hF : 1100 ≤ F) : oq_pay F zz_Rel := by
  intro I R J x h
  obtain ⟨I1, R1, J1, r, a, b, c⟩ := za_act hF (za_pay hF x) h
  refine ⟨I1, R1, J1, r, ?_, b, c⟩
  rw [← a]
  unfold mi_X8_pay
  congr 1
  funext I2
  generalize (mi_X5_payOut F I2 R 0 x) = z
  cases z <;> rfl
theorem zo_send {F : Nat} (hF : 1100 ≤ F) : oq_send F zz_Rel := by
  intro I R J h
  obtain ⟨I1, R1, J1, r, a, b, c⟩ := za_act hF (za_send hF) h
  refine ⟨I1, R1, J1, r, ?_, b, c⟩
  rw [← a]
  unfold mi_X8_send
  congr 1
  funext I2
  generalize (mi_X5_letGo I2 0) = z
  cases z <;> rfl
theorem zo_pass {F : Nat} (hF : 1100 ≤ F) : oq_pass F zz_Rel := by
  intro I R J x h
  obtain ⟨I1, R1, J1, r, a, b, c⟩ := za_act hF (za_pass hF x) h
  refine ⟨I1, R1, J1, r, ?_, b, c⟩
  rw [← a]
  unfold mi_X8_pass
  congr 1
  funext I2
  generalize (mi_X5_letPass F I2 R 0 x) = z
  cases z <;> rfl
theorem zo_setWater {F : Nat} (hF : 1100 ≤ F) : oq_setWater F zz_Rel := by
  intro I R J k w s h
  obtain ⟨I1, R1, J1, r, a, b, c⟩ := za_act hF (za_water k w s) h
  refine ⟨I1, R1, J1, r, ?_, b, c⟩
  rw [← a]
  unfold mi_X8_setWater
  congr 1
  funext I2
  generalize (mi_X7_change I2 2 k w s) = z
  cases z <;> rfl
theorem zo_setSlope {F : Nat} (hF : 1100 ≤ F) : oq_setSlope F zz_Rel := by
  intro I R J x h
  obtain ⟨I1, R1, J1, r, a, b, c⟩ := za_act hF (za_slope x) h
  exact ⟨I1, R1, J1, r, a, b, c⟩
theorem zo_set {F : Nat} (hF : 1100 ≤ F) : oq_set F zz_Rel := by
  intro I R J w v h
  obtain ⟨I1, R1, J1, r, a, b, c⟩ := za_act hF (za_set w v) h
  exact ⟨I1, R1, J1, r, a, b, c⟩
theorem zo_weight {F : Nat} (hF : 1100 ≤ F) : oq_weight F zz_Rel := by
  intro I R J x h hx
  obtain ⟨n, n1, rfl, n3⟩ := za_flag hx
  obtain ⟨I1, R1, J1, r, a, b, c⟩ := za_act hF (za_weight n1) h
  refine ⟨I1, R1, J1, r, ?_, ?_, c⟩
  · rw [← a]
    unfold mi_X8_weight
    congr 1
    funext I2
    generalize (mi_X5_changeWeight I2 0 (nI n)) = z
    cases z <;> rfl
  · unfold mi_X9_weight
    rw [n3]
    exact b
theorem zo_clamp {F : Nat} (hF : 1100 ≤ F) : oq_clamp F zz_Rel := by
  intro I R J x h hx
  obtain ⟨n, n1, rfl, n3⟩ := za_flag hx
  obtain ⟨I1, R1, J1, r, a, b, c⟩ := za_act hF (za_clamp hF n1) h
  refine ⟨I1, R1, J1, r, a, ?_, c⟩
  unfold mi_X9_clamp
  rw [n3]
  exact b
theorem zo_takeOff {F : Nat} (hF : 1100 ≤ F) : oq_takeOff F zz_Rel := by
  intro I R J x h
  obtain ⟨I1, R1, J1, r, a, b, c⟩ := za_act hF (za_take hF x) h
  exact ⟨I1, R1, J1, r, a, b, c⟩

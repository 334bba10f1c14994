/-! the relation, and the acts -/
def zz_PR (R : Nat → Nat → Option Nat) : Prop := zz_RW R 0 ∧ zz_RW R 18 ∧ zz_RW R 36 ∧ zz_RW R 54
def zz_PT (I : Nat → Nat → Int32) (J : Nat → Nat → Int32) : Prop := ∃ tl, tl ≤ 60 ∧ I 147 1 = nI tl ∧ J 0 4 = nI tl ∧ ∀ k, k < tl → ∃ c, c < 65536 ∧ I 148 k = nI c ∧ J 2 k = nI c
def zz_PS (I : Nat → Nat → Int32) (J : Nat → Nat → Int32) : Prop := (I 144 8 = 0 ∧ J 0 5 = -1005 ∧ J 0 6 = -1005) ∨ (I 144 8 = 1 ∧ I 144 9 = J 0 5 ∧ I 144 10 = J 0 6)
theorem zz_PT.keep {I I1 : Nat → Nat → Int32} {J J1 : Nat → Nat → Int32} (h : zz_PT I J) (h1 : I1 147 1 = I 147 1) (h2 : I1 148 = I 148) (h3 : J1 0 4 = J 0 4) (h4 : J1 2 = J 2) : zz_PT I1 J1 := by
  obtain ⟨tl, a, b, c, d⟩ := h
  exact ⟨tl, a, by rw [h1]; exact b, by rw [h3]; exact c, fun k hk => by rw [h2, h4]; exact d k hk⟩
theorem zz_PS.keep {I I1 : Nat → Nat → Int32} {J J1 : Nat → Nat → Int32} (h : zz_PS I J) (h1 : I1 144 = I 144) (h3 : J1 0 5 = J 0 5) (h4 : J1 0 6 = J 0 6) : zz_PS I1 J1 := by
  unfold zz_PS
  rw [h1, h3, h4]
  exact h
theorem zz_PR.keep {R R1 : Nat → Nat → Option Nat} (h : zz_PR R) (h0 : zz_RW R1 0) (h1 : ∀ x, 18 ≤ x → x < 72 → R1 x = R x) : zz_PR R1 :=
  ⟨h0, zc_RWkeep h.2.1 (h1 _ (by omega) (by omega)), zc_RWkeep h.2.2.1 (h1 _ (by omega) (by omega)), zc_RWkeep h.2.2.2 (h1 _ (by omega) (by omega))⟩
/-! each act -/
theorem za_frR {a : Nat} {R : Nat → Nat → Option Nat} : zz_frR a R R := fun _ _ => rfl
theorem zs_slope {A : mz_A} (x : Int32) (h : zz_sec A) : zz_sec (sq_slope x A).1 := by
  obtain ⟨p, sl, lo, nb, nm, mb, ms, sc, bt⟩ := A
  unfold sq_slope
  dsimp only
  split
  · exact h
  · split <;> exact h
theorem zs_weight {A : mz_A} (x : Nat) (h : zz_sec A) : zz_sec (sq_weight x A).1 := by
  obtain ⟨p, sl, lo, nb, nm, mb, ms, sc, bt⟩ := A
  unfold sq_weight
  dsimp only
  split
  · exact h
  · split <;> exact h
theorem zs_up {p sl lo nb nm : Nat} {mb ms : Nat → Nat} {sc : Nat → Int32} {bt : Nat → Nat → Int32} {q p1 sl1 lo1 nb1 nm1 : Nat} {mb1 ms1 : Nat → Nat} {bt1 : Nat → Nat → Int32} {v : Int32} (hq : q ≠ 0) (h : zz_sec (p, sl, lo, nb, nm, mb, ms, sc, bt)) : zz_sec (p1, sl1, lo1, nb1, nm1, mb1, ms1, va_up sc q v, bt1) := by
  obtain ⟨s, h1, h2⟩ := h
  exact ⟨s, h1, (va_up_ne sc v (fun e => hq e.symm)).trans h2⟩
theorem zs_set {A : mz_A} (w v : Int32) (h : zz_sec A) : zz_sec (sq_set w v A).1 := by
  obtain ⟨p, sl, lo, nb, nm, mb, ms, sc, bt⟩ := A
  unfold sq_set
  dsimp only
  split
  · exact h
  · split
    · exact h
    · split
      · exact h
      · exact zs_up (by unfold sp_ix; split <;> omega) h
theorem zs_water {A : mz_A} (k w s : Int32) (h : zz_sec A) : zz_sec (sq_water k w s A).1 := by
  obtain ⟨p, sl, lo, nb, nm, mb, ms, sc, bt⟩ := A
  unfold sq_water
  dsimp only
  split
  · exact h
  · split
    · exact h
    · split
      · exact h
      · exact zs_up (by omega) (zs_up (by omega) h : zz_sec (p, sl, lo, nb, nm, mb, ms, _, bt))
theorem zs_send {A : mz_A} (h : zz_sec A) : zz_sec (sq_send A).1 := by
  obtain ⟨p, sl, lo, nb, nm, mb, ms, sc, bt⟩ := A
  unfold sq_send
  dsimp only
  split
  · exact h
  · split
    · exact h
    · exact zs_up (by omega) h
theorem zs_pay {A : mz_A} (x : Int32) (h : zz_sec A) : zz_sec (sq_pay x A).1 := by
  obtain ⟨p, sl, lo, nb, nm, mb, ms, sc, bt⟩ := A
  unfold sq_pay
  dsimp only
  split
  · exact h
  · split
    · exact h
    · split
      · exact h
      · exact zs_up (by omega) h
theorem zs_clamp {A : mz_A} (x : Nat) (h : zz_sec A) : zz_sec (sq_clamp x A).1 := by
  obtain ⟨p, sl, lo, nb, nm, mb, ms, sc, bt⟩ := A
  unfold sq_clamp
  dsimp only
  split
  · exact h
  · split <;> exact h
theorem zs_take {A : mz_A} (x : Int32) (h : zz_sec A) : zz_sec (sq_take x A).1 := by
  obtain ⟨p, sl, lo, nb, nm, mb, ms, sc, bt⟩ := A
  unfold sq_take
  dsimp only
  split
  · exact h
  · split <;> exact h
theorem za_b2 {α β : Type} (z : Option ((Nat → Nat → Int32) × Int32)) (R : Nat → Nat → Option Nat) (k : (Nat → Nat → Int32) → (Nat → Nat → Option Nat) → Int32 → Option β) : mc_ob3 (mc_ob2 z fun I3 r4 => some (I3, R, r4)) k = mc_ob2 z fun I3 r4 => k I3 R r4 := by
  cases z with
  | none => rfl
  | some q => rfl

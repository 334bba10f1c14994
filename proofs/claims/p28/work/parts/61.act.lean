/-! act: one of the class's acts, by the script's numbers alone -/
theorem zk_low (v : Int32) {n : Nat} (h0 : 0 < n) (hn : n ≤ 5000) : ∃ j, j < n ∧ mi_L_low v (nI n) = some (nI j) := by
  obtain ⟨w, hw, e⟩ := pk_andE v (m := 2147483647) 31 (by decide)
  refine ⟨w % n, Nat.mod_lt _ h0, ?_⟩
  have h1 := Nat.div_add_mod w n
  have h2 : w / n * n ≤ w := Nat.div_mul_le_self w n
  rw [Nat.mul_comm] at h1
  unfold mi_L_low
  rw [if_neg (fun q => by have := (nI_eq (b := 0) (by omega) (by omega)).mp q; omega), e, zi_div (by omega) h0 (by omega), zi_mul, zi_sub h2]
  exact congrArg (fun z => some (nI z)) (by omega)
theorem zl_act.cg {Q Q1 : (Nat → Nat → Int32) → (Nat → Nat → Option Nat) → Option ((Nat → Nat → Int32) × (Nat → Nat → Option Nat) × Int32)} {S : mz_A → mz_A × Int32} (h : zl_act Q S) (e : ∀ I R, Q1 I R = Q I R) : zl_act Q1 S :=
  ⟨h.1, fun I R A ns AH hR => by rw [e]; exact h.2 I R A ns AH hR⟩
theorem zk_eta3 (z : Option ((Nat → Nat → Int32) × (Nat → Nat → Option Nat) × Int32)) : (mc_ob3 z fun I1 R1 r => some (I1, R1, r)) = z := by
  cases z with
  | none => rfl
  | some q => rfl
theorem zk_actP {F : Nat} (hF : 1100 ≤ F) (x y : Int32) (h : ∀ I R, mi_L_act F I R x y = mc_ob (mi_L_low y 6) fun r4 => if r4 = 0 then mc_ob (mi_L_low (y >>> (3 &&& 31)) 900) fun r13 => mc_ob3 (mi_X8_pay F I R (r13 - 400)) fun I15 R16 r17 => some (I15, R16, r17) else mc_ob (mi_L_low (y >>> (3 &&& 31)) 170) fun r7 => mc_ob3 (mi_X8_pay F I R (r7 - 40)) fun I9 R10 r11 => some (I9, R10, r11)) : ∃ S, zl_act (fun I R => mi_L_act F I R x y) S := by
  obtain ⟨j, hj, e⟩ := zk_low y (n := 6) (by omega) (by omega)
  obtain ⟨j1, hj1, e1⟩ := zk_low (y >>> (3 &&& 31)) (n := 900) (by omega) (by omega)
  obtain ⟨j2, hj2, e2⟩ := zk_low (y >>> (3 &&& 31)) (n := 170) (by omega) (by omega)
  by_cases c : nI j = 0
  · refine ⟨_, (zm_pay hF (nI j1 - 400)).cg fun I R => ?_⟩
    rw [h I R, show mi_L_low y 6 = _ from e, mz_ob, if_pos c, show mi_L_low (y >>> (3 &&& 31)) 900 = _ from e1, mz_ob, zk_eta3]
  · refine ⟨_, (zm_pay hF (nI j2 - 40)).cg fun I R => ?_⟩
    rw [h I R, show mi_L_low y 6 = _ from e, mz_ob, if_neg c, show mi_L_low (y >>> (3 &&& 31)) 170 = _ from e2, mz_ob, zk_eta3]
theorem zk_actC {F : Nat} (hF : 1100 ≤ F) (x y : Int32) (h : ∀ I R, mi_L_act F I R x y = mc_ob (mi_L_low y 3) fun r52 => if r52 ≤ 0 then mc_ob3 (mi_X8_clamp F I R 0) fun I55 R56 r57 => some (I55, R56, r57) else mc_ob3 (mi_X8_clamp F I R 1) fun I59 R60 r61 => some (I59, R60, r61)) : ∃ S, zl_act (fun I R => mi_L_act F I R x y) S := by
  obtain ⟨j, hj, e⟩ := zk_low y (n := 3) (by omega) (by omega)
  by_cases c : nI j ≤ 0
  · refine ⟨_, (zm_clamp hF (x := 0) (by omega)).cg fun I R => ?_⟩
    rw [h I R, show mi_L_low y 3 = _ from e, mz_ob, if_pos c, zk_eta3]
    rfl
  · refine ⟨_, (zm_clamp hF (x := 1) (by omega)).cg fun I R => ?_⟩
    rw [h I R, show mi_L_low y 3 = _ from e, mz_ob, if_neg c, zk_eta3]
    rfl
theorem zk_actS {F : Nat} (hF : 1100 ≤ F) (x y : Int32) (h : ∀ I R, mi_L_act F I R x y = mc_ob3 (mi_X8_send F I R) fun I100 R101 r102 => some (I100, R101, r102)) : ∃ S, zl_act (fun I R => mi_L_act F I R x y) S :=
  ⟨_, (zm_send hF).cg fun I R => by rw [h I R, zk_eta3]⟩
theorem zk_actT {F : Nat} (hF : 1100 ≤ F) (x y : Int32) (h : ∀ I R, mi_L_act F I R x y = mc_ob (mi_L_low y 30) fun r164 => mc_ob3 (mi_X8_pass F I R (1 + r164)) fun I166 R167 r168 => some (I166, R167, r168)) : ∃ S, zl_act (fun I R => mi_L_act F I R x y) S := by
  obtain ⟨j, hj, e⟩ := zk_low y (n := 30) (by omega) (by omega)
  exact ⟨_, (zm_pass hF (1 + nI j)).cg fun I R => by rw [h I R, show mi_L_low y 30 = _ from e, mz_ob, zk_eta3]⟩
theorem zk_act {F : Nat} (hF : 1100 ≤ F) (x y : Int32) : ∃ S, zl_act (fun I R => mi_L_act F I R x y) S := by
  obtain ⟨j, hj, e⟩ := zk_low x (n := 15) (by omega) (by omega)
  replace e : mi_L_low x 15 = some (nI j) := e
  rcases (show j = 0 ∨ j = 1 ∨ j = 2 ∨ j = 3 ∨ j = 4 ∨ j = 5 ∨ j = 6 ∨ j = 7 ∨ j = 8 ∨ j = 9 ∨ j = 10 ∨ j = 11 ∨ j = 12 ∨ j = 13 ∨ j = 14 by omega) with rfl | rfl | rfl | rfl | rfl | rfl | rfl | rfl | rfl | rfl | rfl | rfl | rfl | rfl | rfl
  · exact zk_actP hF x y fun I R => by unfold mi_L_act; rw [e, mz_ob]; repeat (first | rw [if_neg (by decide)] | rw [if_pos (by decide)])
  · exact zk_actP hF x y fun I R => by unfold mi_L_act; rw [e, mz_ob]; repeat (first | rw [if_neg (by decide)] | rw [if_pos (by decide)])
  · exact zk_actP hF x y fun I R => by unfold mi_L_act; rw [e, mz_ob]; repeat (first | rw [if_neg (by decide)] | rw [if_pos (by decide)])
  · exact zk_actC hF x y fun I R => by unfold mi_L_act; rw [e, mz_ob]; repeat (first | rw [if_neg (by decide)] | rw [if_pos (by decide)])
  · exact zk_actC hF x y fun I R => by unfold mi_L_act; rw [e, mz_ob]; repeat (first | rw [if_neg (by decide)] | rw [if_pos (by decide)])
  · exact zk_actC hF x y fun I R => by unfold mi_L_act; rw [e, mz_ob]; repeat (first | rw [if_neg (by decide)] | rw [if_pos (by decide)])
  · exact zk_actC hF x y fun I R => by unfold mi_L_act; rw [e, mz_ob]; repeat (first | rw [if_neg (by decide)] | rw [if_pos (by decide)])
  · exact zk_actS hF x y fun I R => by unfold mi_L_act; rw [e, mz_ob]; repeat (first | rw [if_neg (by decide)] | rw [if_pos (by decide)])
  · exact zk_actS hF x y fun I R => by unfold mi_L_act; rw [e, mz_ob]; repeat (first | rw [if_neg (by decide)] | rw [if_pos (by decide)])
  · exact zk_actS hF x y fun I R => by unfold mi_L_act; rw [e, mz_ob]; repeat (first | rw [if_neg (by decide)] | rw [if_pos (by decide)])
  · obtain ⟨j, hj, e1⟩ := zk_low y (n := 7) (by omega) (by omega)
    refine ⟨_, (zm_setSlope hF (nI j)).cg fun I R => ?_⟩
    unfold mi_L_act
    rw [e, mz_ob]
    repeat (first | rw [if_neg (by decide)] | rw [if_pos (by decide)])
    rw [show mi_L_low y 7 = _ from e1, mz_ob, zk_eta3]
  · obtain ⟨j0, hj0, e0⟩ := zk_low (x >>> (4 &&& 31)) (n := 2) (by omega) (by omega)
    by_cases c : nI j0 = 0
    · obtain ⟨j1, hj1, e1⟩ := zk_low y (n := 2) (by omega) (by omega)
      by_cases c1 : nI j1 = 0
      · refine ⟨_, (zm_weight hF (x := 1) (by omega)).cg fun I R => ?_⟩
        unfold mi_L_act
        rw [e, mz_ob]
        repeat (first | rw [if_neg (by decide)] | rw [if_pos (by decide)])
        rw [show mi_L_low (x >>> (4 &&& 31)) 2 = _ from e0, mz_ob, if_pos c, show mi_L_low y 2 = _ from e1, mz_ob, if_pos c1, zk_eta3]
        rfl
      · refine ⟨_, (zm_weight hF (x := 0) (by omega)).cg fun I R => ?_⟩
        unfold mi_L_act
        rw [e, mz_ob]
        repeat (first | rw [if_neg (by decide)] | rw [if_pos (by decide)])
        rw [show mi_L_low (x >>> (4 &&& 31)) 2 = _ from e0, mz_ob, if_pos c, show mi_L_low y 2 = _ from e1, mz_ob, if_neg c1, zk_eta3]
        rfl
    · obtain ⟨j1, hj1, e1⟩ := zk_low y (n := 4) (by omega) (by omega)
      refine ⟨_, (zm_takeOff hF (nI j1)).cg fun I R => ?_⟩
      unfold mi_L_act
      rw [e, mz_ob]
      repeat (first | rw [if_neg (by decide)] | rw [if_pos (by decide)])
      rw [show mi_L_low (x >>> (4 &&& 31)) 2 = _ from e0, mz_ob, if_neg c, show mi_L_low y 4 = _ from e1, mz_ob, zk_eta3]
  · obtain ⟨j0, hj0, e0⟩ := zk_low (x >>> (4 &&& 31)) (n := 2) (by omega) (by omega)
    by_cases c : nI j0 = 0
    · obtain ⟨j1, hj1, e1⟩ := zk_low y (n := 11) (by omega) (by omega)
      obtain ⟨j2, hj2, e2⟩ := zk_low (y >>> (4 &&& 31)) (n := 310) (by omega) (by omega)
      obtain ⟨j3, hj3, e3⟩ := zk_low (y >>> (5 &&& 31)) (n := 421) (by omega) (by omega)
      refine ⟨_, (zm_setWater hF (nI j1) (nI j2 - 20) (nI j3)).cg fun I R => ?_⟩
      unfold mi_L_act
      rw [e, mz_ob]
      repeat (first | rw [if_neg (by decide)] | rw [if_pos (by decide)])
      rw [show mi_L_low (x >>> (4 &&& 31)) 2 = _ from e0, mz_ob, if_pos c, show mi_L_low y 11 = _ from e1, mz_ob, show mi_L_low (y >>> (4 &&& 31)) 310 = _ from e2, mz_ob, show mi_L_low (y >>> (5 &&& 31)) 421 = _ from e3, mz_ob, zk_eta3]
    · obtain ⟨j1, hj1, e1⟩ := zk_low (x >>> (5 &&& 31)) (n := 3) (by omega) (by omega)
      obtain ⟨j2, hj2, e2⟩ := zk_low y (n := 90) (by omega) (by omega)
      refine ⟨_, (zm_set hF (nI j1) (nI j2)).cg fun I R => ?_⟩
      unfold mi_L_act
      rw [e, mz_ob]
      repeat (first | rw [if_neg (by decide)] | rw [if_pos (by decide)])
      rw [show mi_L_low (x >>> (4 &&& 31)) 2 = _ from e0, mz_ob, if_neg c, show mi_L_low (x >>> (5 &&& 31)) 3 = _ from e1, mz_ob, show mi_L_low y 90 = _ from e2, mz_ob, zk_eta3]
  · exact zk_actT hF x y fun I R => by unfold mi_L_act; rw [e, mz_ob]; repeat (first | rw [if_neg (by decide)] | rw [if_pos (by decide)])
  · exact zk_actT hF x y fun I R => by unfold mi_L_act; rw [e, mz_ob]; repeat (first | rw [if_neg (by decide)] | rw [if_pos (by decide)])

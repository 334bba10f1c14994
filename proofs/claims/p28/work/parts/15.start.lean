/-! THE START: both objects are made, and hold what the relation begins with -/
def mz_i (r : Nat) : Nat → Int32 := match r with
  | 0 => fun k => if k = 6 then 20 else if k = 7 then 200 else 0
  | 3 => mx_w0
  | 4 => mx_s0
  | _ => fun _ => 0
def mz_I0 (i : Nat) : Nat → Int32 := if i < 144 then mz_i (i % 18) else fun _ => 0
def mz_R0 (i : Nat) : Nat → Option Nat := fun k => if i < 144 then (if i % 18 = 7 ∧ k < 10 then some (i + 1 + k) else none) else (if i = 146 ∧ k < 4 then some (72 + 18 * k) else none)
def mz_ad (n i : Nat) : Nat := n + (if i < 72 then i + 1 else if i < 144 then i + 3 else if i = 144 then 0 else if i = 145 then 73 else if i = 146 then 74 else i)
def mz_kk (r : Nat) : Nat := match r with
    | 0 => 5
    | 1 => 1
    | 2 => 7
    | 3 => 11
    | 4 => 11
    | 5 => 4
    | 6 => 14
    | 7 => 12
    | _ => 0
def mz_sq (w : mc_w) (n : Nat) (es : List va_E) (H : Heap) : Prop := ∀ (k : Nat) (e : va_E), es[k]? = some e → va_at w.1 vwCl (n + k, e) H
theorem mz_sqL {w : mc_w} {n : Nat} {X Y : List va_E} {H : Heap} (h : mz_sq w n (X ++ Y) H) : mz_sq w n X H := fun k e hk => h k e (by
  have hl := (List.getElem?_eq_some_iff.mp hk).1
  rw [List.getElem?_append_left hl]
  exact hk)
theorem mz_sqR {w : mc_w} {n : Nat} {X Y : List va_E} {H : Heap} (h : mz_sq w n (X ++ Y) H) : mz_sq w (n + X.length) Y H := fun k e hk => by
  have h1 := h (X.length + k) e (by rw [List.getElem?_append_right (Nat.le_add_right _ _), Nat.add_sub_cancel_left]; exact hk)
  rw [← Nat.add_assoc] at h1
  exact h1
theorem mx_b0_eq (a k : Nat) : mx_b0 a k = if k < 10 then some (a + (8 + k)) else none := by
  unfold mx_b0 va_up
  rcases (show k = 0 ∨ k = 1 ∨ k = 2 ∨ k = 3 ∨ k = 4 ∨ k = 5 ∨ k = 6 ∨ k = 7 ∨ k = 8 ∨ k = 9 ∨ 10 ≤ k by omega) with rfl | rfl | rfl | rfl | rfl | rfl | rfl | rfl | rfl | rfl | h
  · rfl
  · rfl
  · rfl
  · rfl
  · rfl
  · rfl
  · rfl
  · rfl
  · rfl
  · rfl
  · rw [if_neg (by omega)]
    rw [if_neg (by omega)]
    rw [if_neg (by omega)]
    rw [if_neg (by omega)]
    rw [if_neg (by omega)]
    rw [if_neg (by omega)]
    rw [if_neg (by omega)]
    rw [if_neg (by omega)]
    rw [if_neg (by omega)]
    rw [if_neg (by omega)]
    rw [if_neg (by omega)]
theorem mx_h0_eq (a k : Nat) : mx_h0 a k = if k < 4 then some (a + (2 + 18 * k)) else none := by
  unfold mx_h0 va_up
  rcases (show k = 0 ∨ k = 1 ∨ k = 2 ∨ k = 3 ∨ 4 ≤ k by omega) with rfl | rfl | rfl | rfl | h
  · rfl
  · rfl
  · rfl
  · rfl
  · rw [if_neg (by omega)]
    rw [if_neg (by omega)]
    rw [if_neg (by omega)]
    rw [if_neg (by omega)]
    rw [if_neg (by omega)]
set_option maxRecDepth 100000 in
set_option maxHeartbeats 4000000 in
theorem mz_blk {w : mc_w} {H : Heap} {a j : Nat} (hj : j < 8) (had : ∀ r, r < 18 → w.2.2.1 (18 * j + r) = a + r) (h : mz_sq w a (mx_st w a) H) : ∀ r, r < 18 → va_at w.1 vwCl (w.2.2.1 (18 * j + r), mc_Ei w (mc_k (18 * j + r)) (18 * j + r) (mz_I0 (18 * j + r)) (mz_R0 (18 * j + r))) H := by
  intro r hr
  have hk : mc_k (18 * j + r) = mz_kk r := by
    unfold mc_k
    rw [if_pos (by omega), show (18 * j + r) % 18 = r by omega]
    rfl
  have hI : mz_I0 (18 * j + r) = mz_i r := by
    unfold mz_I0
    rw [if_pos (by omega), show (18 * j + r) % 18 = r by omega]
  rw [had r hr, hk, hI]
  rcases (show r = 0 ∨ r = 1 ∨ r = 2 ∨ r = 3 ∨ r = 4 ∨ r = 5 ∨ r = 6 ∨ r = 7 ∨ r = 8 ∨ r = 9 ∨ r = 10 ∨ r = 11 ∨ r = 12 ∨ r = 13 ∨ r = 14 ∨ r = 15 ∨ r = 16 ∨ r = 17 by omega) with rfl | rfl | rfl | rfl | rfl | rfl | rfl | rfl | rfl | rfl | rfl | rfl | rfl | rfl | rfl | rfl | rfl | rfl
  · show va_at w.1 vwCl (a + 0, .inr (5, [.ref (w.2.2.1 (18 * j + 0 + 1)), .ref (w.2.2.1 (18 * j + 0 + 2)), .ref (w.2.2.1 (18 * j + 0 + 5)), .ref (w.2.2.1 (18 * j + 0 + 7)), .int 0, .int 0, .int 20, .int 200])) H
    rw [show w.2.2.1 (18 * j + 0 + 1) = a + 1 from had 1 (by decide), show w.2.2.1 (18 * j + 0 + 2) = a + 2 from had 2 (by decide), show w.2.2.1 (18 * j + 0 + 5) = a + 5 from had 5 (by decide), show w.2.2.1 (18 * j + 0 + 7) = a + 7 from had 7 (by decide)]
    exact h 0 _ rfl
  · exact h 1 _ rfl
  · show va_at w.1 vwCl (a + 2, .inr (7, [.ref (w.2.2.1 (18 * j + 2 + 1)), .ref (w.2.2.1 (18 * j + 2 + 2))])) H
    rw [show w.2.2.1 (18 * j + 2 + 1) = a + 3 from had 3 (by decide), show w.2.2.1 (18 * j + 2 + 2) = a + 4 from had 4 (by decide)]
    exact h 2 _ rfl
  · exact h 3 _ rfl
  · exact h 4 _ rfl
  · show va_at w.1 vwCl (a + 5, .inr (4, [.ref (w.2.2.1 (18 * j + 5 + 1)), .int 0, .int 0, .int 0, .int 0, .int 0, .int 0])) H
    rw [show w.2.2.1 (18 * j + 5 + 1) = a + 6 from had 6 (by decide)]
    exact h 5 _ rfl
  · exact h 6 _ rfl
  · have e7 : (fun k => (mz_R0 (18 * j + 7) k).map w.2.2.1) = mx_b0 a := by
      funext k
      rw [mx_b0_eq]
      unfold mz_R0
      rw [if_pos (by omega)]
      by_cases hk : k < 10
      · rw [if_pos ⟨by omega, hk⟩, if_pos hk]
        exact congrArg some ((congrArg w.2.2.1 (by omega)).trans (had (8 + k) (by omega)))
      · rw [if_neg (fun q => hk q.2), if_neg hk]
        rfl
    show va_at w.1 vwCl (a + 7, .inl (w.2.1 2, 10, .inr (.inr (.inr (.inr (fun k => (mz_R0 (18 * j + 7) k).map w.2.2.1)))))) H
    rw [e7]
    exact h 7 _ rfl
  · exact h 8 _ rfl
  · exact h 9 _ rfl
  · exact h 10 _ rfl
  · exact h 11 _ rfl
  · exact h 12 _ rfl
  · exact h 13 _ rfl
  · exact h 14 _ rfl
  · exact h 15 _ rfl
  · exact h 16 _ rfl
  · exact h 17 _ rfl
set_option maxRecDepth 100000 in
set_option maxHeartbeats 4000000 in
theorem mz_P1 {w : mc_w} {n : Nat} {X : List va_E} {H : Heap} (hw : w.2.2.1 = mz_ad n) (h : mx_P w n (mx_ma w n ++ X) H) : mc_P mc_k 152 w mz_I0 mz_R0 H := by
  have q0 : mz_sq w n (mx_ma w n) H := mz_sqL (Y := X) h.2
  have qc : mz_sq w (n + 149) _ H := mz_sqR q0
  have q1 := mz_sqL q0
  have qt : mz_sq w (n + 147) _ H := mz_sqR q1
  have q2 := mz_sqL q1
  have qh : mz_sq w (n + 73) (mx_hi w (n + 73)) H := mz_sqR q2
  have q3 := mz_sqL q2
  have b3 : mz_sq w (n + 55) (mx_st w (n + 55)) H := mz_sqR q3
  have q4 := mz_sqL q3
  have b2 : mz_sq w (n + 37) (mx_st w (n + 37)) H := mz_sqR q4
  have q5 := mz_sqL q4
  have b1 : mz_sq w (n + 19) (mx_st w (n + 19)) H := mz_sqR q5
  have q6 := mz_sqL q5
  have b0 : mz_sq w (n + 1) (mx_st w (n + 1)) H := mz_sqR q6
  have qm := mz_sqL q6
  have b7 : mz_sq w (n + 129) (mx_st w (n + 129)) H := mz_sqR qh
  have g1 := mz_sqL qh
  have b6 : mz_sq w (n + 111) (mx_st w (n + 111)) H := mz_sqR g1
  have g2 := mz_sqL g1
  have b5 : mz_sq w (n + 93) (mx_st w (n + 93)) H := mz_sqR g2
  have g3 := mz_sqL g2
  have b4 : mz_sq w (n + 75) (mx_st w (n + 75)) H := mz_sqR g3
  have g4 := mz_sqL g3
  have had : ∀ i, w.2.2.1 i = mz_ad n i := fun i => by rw [hw]
  have key : ∀ i, i < 152 → va_at w.1 vwCl (w.2.2.1 i, mc_Ei w (mc_k i) i (mz_I0 i) (mz_R0 i)) H := by
    intro i hi
    by_cases h144 : i < 144
    · have hb : ∀ j, j < 8 → ∀ r, r < 18 → va_at w.1 vwCl (w.2.2.1 (18 * j + r), mc_Ei w (mc_k (18 * j + r)) (18 * j + r) (mz_I0 (18 * j + r)) (mz_R0 (18 * j + r))) H := by
        intro j hj
        rcases (show j = 0 ∨ j = 1 ∨ j = 2 ∨ j = 3 ∨ j = 4 ∨ j = 5 ∨ j = 6 ∨ j = 7 by omega) with rfl | rfl | rfl | rfl | rfl | rfl | rfl | rfl
        · exact mz_blk (a := n + 1) hj (fun r hr => by rw [had]; unfold mz_ad; rw [if_pos (by omega)]; omega) b0
        · exact mz_blk (a := n + 19) hj (fun r hr => by rw [had]; unfold mz_ad; rw [if_pos (by omega)]; omega) b1
        · exact mz_blk (a := n + 37) hj (fun r hr => by rw [had]; unfold mz_ad; rw [if_pos (by omega)]; omega) b2
        · exact mz_blk (a := n + 55) hj (fun r hr => by rw [had]; unfold mz_ad; rw [if_pos (by omega)]; omega) b3
        · exact mz_blk (a := n + 75) hj (fun r hr => by rw [had]; unfold mz_ad; rw [if_neg (by omega), if_pos (by omega)]; omega) b4
        · exact mz_blk (a := n + 93) hj (fun r hr => by rw [had]; unfold mz_ad; rw [if_neg (by omega), if_pos (by omega)]; omega) b5
        · exact mz_blk (a := n + 111) hj (fun r hr => by rw [had]; unfold mz_ad; rw [if_neg (by omega), if_pos (by omega)]; omega) b6
        · exact mz_blk (a := n + 129) hj (fun r hr => by rw [had]; unfold mz_ad; rw [if_neg (by omega), if_pos (by omega)]; omega) b7
      have := hb (i / 18) (by omega) (i % 18) (by omega)
      rw [Nat.div_add_mod] at this
      exact this
    · rcases (show i = 144 ∨ i = 145 ∨ i = 146 ∨ i = 147 ∨ i = 148 ∨ i = 149 ∨ i = 150 ∨ i = 151 by omega) with rfl | rfl | rfl | rfl | rfl | rfl | rfl | rfl
      · show va_at w.1 vwCl (w.2.2.1 144, .inr (8, [.ref (w.2.2.1 0), .ref (w.2.2.1 18), .ref (w.2.2.1 36), .ref (w.2.2.1 54), .int 0, .ref (w.2.2.1 145), .ref (w.2.2.1 147), .ref (w.2.2.1 149), .int 0, .int 0, .int 0])) H
        simp only [had]
        exact qm 0 _ rfl
      · show va_at w.1 vwCl (w.2.2.1 145, .inr (3, [.ref (w.2.2.1 146), .int 0])) H
        simp only [had]
        exact g4 0 _ rfl
      · have e7 : (fun k => (mz_R0 146 k).map w.2.2.1) = mx_h0 (n + 73) := by
          funext k
          rw [mx_h0_eq]
          unfold mz_R0
          rw [if_neg (by omega)]
          by_cases hk : k < 4
          · rw [if_pos ⟨rfl, hk⟩, if_pos hk]
            refine congrArg some ?_
            rw [had]
            unfold mz_ad
            rw [if_neg (by omega), if_pos (by omega)]
            omega
          · rw [if_neg (fun q => hk q.2), if_neg hk]
            rfl
        show va_at w.1 vwCl (w.2.2.1 146, .inl (w.2.1 3, 4, .inr (.inr (.inr (.inr (fun k => (mz_R0 146 k).map w.2.2.1)))))) H
        rw [e7, had]
        exact g4 1 _ rfl
      · show va_at w.1 vwCl (w.2.2.1 147, .inr (6, [.ref (w.2.2.1 148), .int 0])) H
        simp only [had]
        exact qt 0 _ rfl
      · rw [had]
        exact qt 1 _ rfl
      · show va_at w.1 vwCl (w.2.2.1 149, .inr (2, [.ref (w.2.2.1 150), .ref (w.2.2.1 151), .int 0, .int 0])) H
        simp only [had]
        exact qc 0 _ rfl
      · rw [had]
        exact qc 1 _ rfl
      · rw [had]
        exact qc 2 _ rfl
  refine ⟨fun k q hq => ?_, fun i k b hb => ?_⟩
  · by_cases hk : k < 152
    · rw [mc_gW_get hk] at hq
      cases hq
      exact key k hk
    · simp [mc_gW, hk] at hq
  · unfold mz_R0 at hb
    by_cases h144 : i < 144
    · rw [if_pos h144] at hb
      by_cases hc : i % 18 = 7 ∧ k < 10
      · rw [if_pos hc] at hb
        cases hb
        have hkk : mc_k (i + 1 + k) = 0 := by
          unfold mc_k
          rw [if_pos (by omega)]
          split <;> first | rfl | omega
        have hki : mc_k i = 12 := by
          unfold mc_k
          rw [if_pos h144, hc.1]
          rfl
        exact ⟨fun _ => hkk, fun h => by rw [hki] at h; cases h⟩
      · rw [if_neg hc] at hb
        cases hb
    · rw [if_neg h144] at hb
      by_cases hc : i = 146 ∧ k < 4
      · rw [if_pos hc] at hb
        cases hb
        obtain ⟨rfl, hk⟩ := hc
        refine ⟨fun h => (by cases h), fun _ => ?_⟩
        unfold mc_k
        rw [if_pos (by omega), show (72 + 18 * k) % 18 = 0 by omega]
        rfl
      · rw [if_neg hc] at hb
        cases hb
theorem mz_arr {s : State} {args : Array Value} {ty : FieldType} (hn : ∀ n, ty ≠ .object n) (h : (Cond.arrayClass ty).before args s = true) : ∃ cA : ClassId, ArrOfT s cA ty ∧ va_RA s cA ty := by
  obtain ⟨c, k, comp, h1, h2, h3⟩ := Cond.arrayClass_spec h
  refine ⟨c, fun n z => ⟨fun k h => (by cases h), k, h2, comp, h3⟩, ?_⟩
  cases ty with
  | object n => exact absurd rfl (hn n)
  | _ => exact h1
theorem mz_arrq {s : State} {args : Array Value} {n : String} (h : (Cond.arrayOver (.object n)).before args s = true) : ∃ cA : ClassId, ArrOfT s cA (.object n) ∧ va_RA s cA (.object n) := by
  obtain ⟨comp, c, k, h1, -, h3, h4, h5⟩ := Cond.arrayOver_spec h
  exact ⟨c, fun N z => ⟨fun k h => (by cases h), k, h3, comp, h4⟩, k, comp, h3, h4, h1, h5⟩
theorem mz_tab {b : Nat} {s : State} (hts : ∀ w ∈ lw_tbl, w.before #[Value.ref b] s = true) (hgv : (Jvm.Cond.and given_1 narrow_1).before #[Value.ref b] s = true) : ∃ t : Nat, va_Z RX8 "DEPTH_PER_MILLE" "[I" (.ref t) (fun q => s.heap.size ≤ q) s s.heap ∧ va_T .int t 7 (fun j => .int (mc_d j)) (fun q => s.heap.size ≤ q) s s.heap := by
  have hs := flat_of_before _ hgv
  have hA : ∀ a : Nat, a < s.heap.size → ¬ s.heap.size ≤ a := fun a h => Nat.not_le.mpr h
  obtain ⟨t, ht, hT⟩ := va_Tof (s := s) (args := #[Value.ref b]) (tm := Term.static "MessengerCasts" "DEPTH_PER_MILLE" "[I") (ty := .int) (N := 7) (f := fun j => .int (mc_d j)) (A := fun q => s.heap.size ≤ q) (by decide) (hs (.arrayOf (.static "MessengerCasts" "DEPTH_PER_MILLE" "[I") .int) (by decide +kernel)) (va_eqt (hs (.eq (.length (.static "MessengerCasts" "DEPTH_PER_MILLE" "[I")) (.int 7)) (by decide +kernel))) (fun j hj => by
    rcases (show j = 0 ∨ j = 1 ∨ j = 2 ∨ j = 3 ∨ j = 4 ∨ j = 5 ∨ j = 6 by omega) with rfl | rfl | rfl | rfl | rfl | rfl | rfl
    · exact va_eqt (hs (.eq (.elem (.static "MessengerCasts" "DEPTH_PER_MILLE" "[I") (.int 0)) (.int 1000)) (by decide +kernel))
    · exact va_eqt (hs (.eq (.elem (.static "MessengerCasts" "DEPTH_PER_MILLE" "[I") (.int 1)) (.int 985)) (by decide +kernel))
    · exact va_eqt (hs (.eq (.elem (.static "MessengerCasts" "DEPTH_PER_MILLE" "[I") (.int 2)) (.int 940)) (by decide +kernel))
    · exact va_eqt (hs (.eq (.elem (.static "MessengerCasts" "DEPTH_PER_MILLE" "[I") (.int 3)) (.int 866)) (by decide +kernel))
    · exact va_eqt (hs (.eq (.elem (.static "MessengerCasts" "DEPTH_PER_MILLE" "[I") (.int 4)) (.int 766)) (by decide +kernel))
    · exact va_eqt (hs (.eq (.elem (.static "MessengerCasts" "DEPTH_PER_MILLE" "[I") (.int 5)) (.int 643)) (by decide +kernel))
    · exact va_eqt (hs (.eq (.elem (.static "MessengerCasts" "DEPTH_PER_MILLE" "[I") (.int 6)) (.int 500)) (by decide +kernel))) hA
  exact ⟨t, va_Zof (hts (.laysStatic "MessengerCasts" "DEPTH_PER_MILLE" "[I") (by decide +kernel)) (hts (.initialized "MessengerCasts") (by decide +kernel)) ht hA, hT⟩
set_option maxHeartbeats 4000000 in
set_option maxRecDepth 100000 in
/-- the law, from its entry, over its mirror -/
theorem mz_start {F : Nat} {p : Program} {e : Env} {s : State} {m : MethodId} {below : List Frame} {meth : Method} {c : Code} (l : Launch) {b L : Nat} {xs : Nat → Int32} (hL : L ≤ 260) (ho : mi_L_law L xs F mz_I0 mz_R0 = some 1) (C0 : lw_At p s m meth c b L xs) : W p l e room_1 s m #[Value.ref b] below meth c s.heap [] 0 0 (lw_Z below #[Value.ref b] s) (entryFrame m ([Value.ref b] : List Value).toArray 10) := by
  obtain ⟨hx, hb, hr, hml, hown, hts, hX, hbl, hlocks, hgv⟩ := id C0
  have hb0 : ∀ w ∈ mc_big, w.before #[Value.ref b] s = true := fun w h => hts w (List.mem_filter.mp h).1
  have C : CallFix p m c code 10 s #[Value.ref b] mc_big RL := ⟨hx, hb, hml, hown, hb0⟩
  obtain ⟨t, hZ, hT⟩ := mz_tab hts hgv
  obtain ⟨c0, i0, hKn0⟩ := u_known (C := RX0) (T := TX0) (N := 11) (n := 11) hb0 mc_in0 (hb0 _ wb_X0)
  obtain ⟨c1, i1, hKn1⟩ := u_known (C := RX1) (T := TX1) (N := 3) (n := 3) hb0 mc_in1 (hb0 _ wb_X1)
  obtain ⟨c2, i2, hKn2⟩ := u_known (C := RX2) (T := TX2) (N := 4) (n := 4) hb0 mc_in2 (hb0 _ wb_X2)
  obtain ⟨c3, i3, hKn3⟩ := u_known (C := RX3) (T := TX3) (N := 2) (n := 2) hb0 mc_in3 (hb0 _ wb_X3)
  obtain ⟨c4, i4, hKn4⟩ := u_known (C := RX4) (T := TX4) (N := 7) (n := 7) hb0 mc_in4 (hb0 _ wb_X4)
  obtain ⟨c5, i5, hKn5⟩ := u_known (C := RX5) (T := TX5) (N := 8) (n := 8) hb0 mc_in5 (hb0 _ wb_X5)
  obtain ⟨c6, i6, hKn6⟩ := u_known (C := RX6) (T := TX6) (N := 2) (n := 2) hb0 mc_in6 (hb0 _ wb_X6)
  obtain ⟨c7, i7, hKn7⟩ := u_known (C := RX7) (T := TX7) (N := 2) (n := 2) hb0 mc_in7 (hb0 _ wb_X7)
  obtain ⟨c8, i8, hKn8⟩ := u_known (C := RX8) (T := TX8) (N := 11) (n := 11) hb0 mc_in8 (hb0 _ wb_X8)
  obtain ⟨dC, dI, hKc⟩ : ∃ (dC : Nat → ClassId) (dI : Nat → Nat → Nat), ∀ (k : Nat) (q : vw_C), vwCl[k]? = some q → u_Kn s q.1 q.2.1 q.2.2 (dC k) (dI k) := by
    refine ⟨fun k => if k = 0 then c0 else if k = 1 then c1 else if k = 2 then c2 else if k = 3 then c3 else if k = 4 then c4 else if k = 5 then c5 else if k = 6 then c6 else if k = 7 then c7 else c8, fun k => if k = 0 then i0 else if k = 1 then i1 else if k = 2 then i2 else if k = 3 then i3 else if k = 4 then i4 else if k = 5 then i5 else if k = 6 then i6 else if k = 7 then i7 else i8, ?_⟩
    intro k q hq
    match k, hq with
    | 0, hq => cases hq; exact hKn0
    | 1, hq => cases hq; exact hKn1
    | 2, hq => cases hq; exact hKn2
    | 3, hq => cases hq; exact hKn3
    | 4, hq => cases hq; exact hKn4
    | 5, hq => cases hq; exact hKn5
    | 6, hq => cases hq; exact hKn6
    | 7, hq => cases hq; exact hKn7
    | 8, hq => cases hq; exact hKn8
    | k + 9, hq => simp [vwCl] at hq
  obtain ⟨a0, ha0⟩ := mz_arr (ty := .char) (fun n h => by cases h) (hb0 _ wa_char)
  obtain ⟨a1, ha1⟩ := mz_arr (ty := .int) (fun n h => by cases h) (hb0 _ wa_int)
  obtain ⟨a2, ha2⟩ := mz_arrq (hts _ wo_X0)
  obtain ⟨a3, ha3⟩ := mz_arrq (hts _ wo_X5)
  obtain ⟨w, hw⟩ : ∃ w : mc_w, w = ((dC, dI), (fun k => if k = 0 then a0 else if k = 1 then a1 else if k = 2 then a2 else a3), mz_ad s.heap.size, t) := ⟨_, rfl⟩
  have hva : va_K w.1 vwCl (mc_tys w) s := by
    subst hw
    refine ⟨hKc, fun k q hk => ?_⟩
    match k, hk with
    | 0, hk => cases hk; exact ha0
    | 1, hk => cases hk; exact ha1
    | 2, hk => cases hk; exact ha2
    | 3, hk => cases hk; exact ha3
    | k + 4, hk => simp at hk
  have hN : mc_N s := ⟨va_Nw.of rfl (hts _ ml_X5_11), va_Nw.of rfl (hts _ ml_X5_27), va_Nw.of rfl (hts _ ml_X5_45), va_Nw.of rfl (hts _ ml_X8_34), va_Nw.of rfl (hts _ ml_X8_41), va_Nw.of rfl (hts _ ml_X5_139), va_Nw.of rfl (hts _ ml_X5_149), va_Nw.of rfl (hts _ ml_X1_43)⟩
  have K : mx_K w s := ⟨hva, hN, va_AO.of (hts _ wo_X0), va_AO.of (hts _ wo_X5)⟩
  have hA1 : ∀ i, i < 152 → s.heap.size ≤ w.2.2.1 i := fun i _ => by subst hw; exact Nat.le_add_right _ _
  have hinj : ∀ i j, i < 152 → j < 152 → w.2.2.1 i = w.2.2.1 j → i = j := fun i j hi hj h => by
    subst hw
    have h2 : mz_ad s.heap.size i = mz_ad s.heap.size j := h
    unfold mz_ad at h2
    have h3 := Nat.add_left_cancel h2
    split at h3 <;> split at h3 <;> first | omega | (split at h3 <;> first | omega | (split at h3 <;> first | omega | (split at h3 <;> first | omega | (split at h3 <;> first | omega | (split at h3 <;> first | omega | (split at h3 <;> first | omega | (split at h3 <;> first | omega | (split at h3 <;> omega))))))))
  have K1 : mc_K mc_k 152 w s := ⟨hva, hinj, fun i hi => by
    by_cases h : i < 152
    · exact h
    · refine absurd ?_ hi
      unfold mc_k
      rw [if_neg (by omega)]
      split <;> first | omega | rfl, by subst hw; exact hZ.narrow (fun q hq => by obtain ⟨i, hi, e⟩ := hq; rw [e]; exact hA1 i hi), by subst hw; exact hT.narrow (fun q hq => by obtain ⟨i, hi, e⟩ := hq; rw [e]; exact hA1 i hi), hN⟩
  have hS : va_S (fun q => s.heap.size ≤ q) s.heap s.heap [] := va_S.rf
  have hl := lv_entry ([.ref b]) (n := 10) (Nat.le_of_ble_eq_true rfl)
  rw [lg_entry_eq]
  generalize (lg_sl ([.ref b]) ++ List.replicate (10 - (lg_sl ([.ref b])).length) Slot.unset).toArray = ls at hl ⊢
  have hl : lv_has ls 10 [(0, .ref b)] := hl
  have hP : mx_P w s.heap.size [] s.heap := ⟨rfl, fun k q h => by simp at h⟩
  refine mx_new (ci := 8) (Cn := RX8) (T := TX8) (N0 := 11) (ty := tyX8) (fs := [.null, .null, .null, .null, .int 0, .null, .null, .null, .int 0, .int 0, .int 0]) C K hP hS mc_in8 tyX8_ok rfl cl_L_11 wb_X8 wn_X8 (fun j hj => by rcases (show j = 0 ∨ j = 1 ∨ j = 2 ∨ j = 3 ∨ j = 4 ∨ j = 5 ∨ j = 6 ∨ j = 7 ∨ j = 8 ∨ j = 9 ∨ j = 10 by omega) with rfl | rfl | rfl | rfl | rfl | rfl | rfl | rfl | rfl | rfl | rfl <;> rfl) (Nat.le_of_ble_eq_true rfl) (Nat.le_of_ble_eq_true rfl) dL_law_0 (fun H hP hS => ?_)
  refine lv_dup hx hb dL_law_3 rfl ?_
  refine mx_I (es := []) (ct_X8_init l (w := w) s.heap.size) C K hP hS hl.1 ml_L_94 wy_X8_init wd_X8_init rfl rfl rfl ⟨Nat.le_of_ble_eq_true rfl, Nat.le_of_ble_eq_true rfl⟩ (Nat.le_of_ble_eq_true rfl) ⟨Nat.le_of_ble_eq_true rfl, Nat.le_of_ble_eq_true rfl⟩ dL_law_4 (fun H locs hP hS => ?_)
  have hP : mx_P w s.heap.size (mx_ma w s.heap.size ++ []) H := by rw [List.append_nil]; exact hP
  refine W.widen (k := 152) (n := 1579) (Nat.le_of_ble_eq_true rfl) (Nat.le_of_ble_eq_true rfl) ?_
  have hl1 : w.2.2.1 144 = s.heap.size := by subst hw; rfl
  refine lv_astore_n (lv' := [(1, .ref s.heap.size), (0, .ref b)]) hx hb dL_law_7 rfl hl (by decide) rfl (fun ls hl => ?_)
  rw [← hl1] at hl
  exact bk_L_law l hL C hX hbl K1 hA1 hr hlocks mz_I0 mz_R0 ho (mz_P1 (by subst hw; rfl) hP) hS hl

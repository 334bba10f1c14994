/-! the other operations, but perform -/
theorem zn_nar {c : Nat} (h : c < 65536) : vp_nar .char (nI c) = nI c := by
  show ((nI c).toUInt32 % 65536).toInt32 = nI c
  have e : (nI c).toUInt32 = UInt32.ofNat c := rfl
  have e2 : UInt32.ofNat c % 65536 = UInt32.ofNat c := by
    apply UInt32.toNat_inj.mp
    rw [UInt32.toNat_mod, UInt32.toNat_ofNat']
    have : (65536 : UInt32).toNat = 65536 := rfl
    rw [this]
    omega
  rw [e, e2]
  rfl
theorem zn_chr (z : Int32) : ∃ c, c < 65536 ∧ (z.toUInt32 % 65536).toInt32 = nI c := by
  refine ⟨(z.toUInt32 % 65536).toNat, ?_, ?_⟩
  · rw [UInt32.toNat_mod]
    have : (65536 : UInt32).toNat = 65536 := rfl
    rw [this]
    omega
  · show _ = (UInt32.ofNat (z.toUInt32 % 65536).toNat).toInt32
    rw [UInt32.ofNat_toNat]
theorem za_ask {I I1 : Nat → Nat → Int32} {R : Nat → Nat → Option Nat} {J J1 : Nat → Nat → Int32} (h : zz_Rel I R J) (hI : zz_fr 36 I I1) (hJ : zz_frJ 1239 J J1) : zz_Rel I1 R J1 := by
  obtain ⟨hPR, ⟨A, hC, hJ0, hok⟩, hX, hK, hT, hS⟩ := h
  obtain ⟨k1, k2, k3, k4⟩ := za_rest (I1 := I1) (R1 := R) (J1 := J1) hPR hX hK hT hS (fun x x1 x2 => hI x (by omega)) (fun _ _ => rfl) (fun j _ _ => by rw [hJ.1 0 (by omega)]) (fun i i1 i2 => hJ.2 i (by omega)) (hJ.1 2 (by omega))
  exact ⟨hPR, ⟨A, zc_keep hok.1 hPR.1 hC (fun x x1 x2 => hI x (by omega)) rfl, zr_keep hok.1 hJ0 (fun i i1 i2 => hJ.2 i (by omega)), hok⟩, k1, k2, k3, k4⟩
theorem zo_bottle {F : Nat} : oq_bottle F zz_Rel := by
  intro I R J x y h
  obtain ⟨hPR, ⟨A, hC, hJ, hok⟩, -⟩ := id h
  obtain ⟨r, a, b⟩ := zq_bottle x y hC hPR.1 hok.1 hJ
  exact ⟨r, a, b, h⟩
theorem zo_messenger {F : Nat} : oq_messenger F zz_Rel := by
  intro I R J x y h
  obtain ⟨hPR, ⟨A, hC, hJ, hok⟩, -⟩ := id h
  obtain ⟨r, a, b⟩ := zq_messenger x y hC hok.1 hJ
  exact ⟨r, a, b, h⟩
theorem zo_layer {F : Nat} (hF : 1100 ≤ F) : oq_layer F zz_Rel := by
  intro I R J x y h
  obtain ⟨hPR, ⟨A, hC, hJ, hok⟩, -⟩ := id h
  obtain ⟨r, a, b⟩ := zq_layer (F := F) (by omega) x y hC hPR.1 hok.1 hJ
  exact ⟨r, a, b, h⟩
theorem zo_depth {F : Nat} : oq_depth F zz_Rel := by
  intro I R J x y h
  obtain ⟨r, a, b⟩ := zq_depth I x y
  exact ⟨r, a, b, h⟩
theorem zo_worst {F : Nat} (hF : 1100 ≤ F) : oq_worst F zz_Rel := by
  intro I R J h
  obtain ⟨hPR, ⟨A, hC, hJ, hok⟩, -⟩ := id h
  obtain ⟨r, a, b⟩ := zq_worst (F := F) (by omega) hC hPR.1 hok.1 hJ
  exact ⟨r, a, b, h⟩
theorem zo_count {F : Nat} (hF : 1100 ≤ F) : oq_count F zz_Rel := by
  intro I R J x h
  obtain ⟨hPR, ⟨A, hC, hJ, hok⟩, ⟨ns, AH, pt, hX⟩, -, ⟨tl, t1, t2, t3, -⟩, -⟩ := id h
  obtain ⟨r, a, b⟩ := zq_count (F := F) (by omega) x hC hPR.1 hok.1 hJ (by rw [hX.2.1, hX.2.2.1]) (by rw [t2, t3])
  exact ⟨r, a, b, h⟩
theorem zo_reason {F : Nat} (hF : 1100 ≤ F) : oq_reason F zz_Rel := by
  intro I R J x h
  obtain ⟨hPR, ⟨A, hC, hJ, hok⟩, -⟩ := id h
  obtain ⟨I1, J1, r, a, b, c, d⟩ := zq_reason hF x hC hPR.1 hPR.2.2.1 hok.1 hJ
  exact ⟨I1, J1, r, a, c, za_ask h b d⟩
theorem zo_shutIn {F : Nat} (hF : 1100 ≤ F) : oq_shutIn F zz_Rel := by
  intro I R J x h
  obtain ⟨hPR, ⟨A, hC, hJ, hok⟩, -⟩ := id h
  obtain ⟨I1, J1, r, a, b, c, d⟩ := zq_shutIn hF x hC hPR.1 hPR.2.2.1 hok.1 hJ
  exact ⟨I1, J1, r, a, c, za_ask h b d⟩
theorem zo_quietIn {F : Nat} (hF : 1100 ≤ F) : oq_quietIn F zz_Rel := by
  intro I R J h
  obtain ⟨hPR, ⟨A, hC, hJ, hok⟩, -⟩ := id h
  obtain ⟨I1, J1, r, a, b, c, d⟩ := zq_quietIn hF hC hPR.1 hPR.2.2.1 hok.1 hJ
  exact ⟨I1, J1, r, a, c, za_ask h b d⟩
theorem zo_stopped {F : Nat} : oq_stopped F zz_Rel := by
  intro I R J x h
  obtain ⟨-, -, -, -, -, hS⟩ := id h
  refine ⟨_, rfl, ?_, h⟩
  unfold mi_X8_stopped mi_X9_stopped
  by_cases hx : x < 0 ∨ 1 < x
  · rw [zr_in0 hx, if_pos rfl]
    by_cases h0 : x < 0
    · rw [if_pos h0]
    · rw [if_neg h0, if_neg (zn_nle32 (hx.resolve_left h0))]
  · rw [zr_in1 (fun q => hx (Or.inl q)) (fun q => hx (Or.inr q)), if_neg (show ¬ (1 : Int32) = 0 by decide), if_neg (fun q => hx (Or.inl q)), if_pos (zn_le32 (fun q => hx (Or.inr q)))]
    rcases hS with ⟨a, b, c⟩ | ⟨a, b, c⟩
    · rw [a, if_pos rfl, b, c]
      split <;> rfl
    · rw [a, if_neg (show ¬ (1 : Int32) = 0 by decide), b, c]
theorem zo_clearText {F : Nat} : oq_clearText F zz_Rel := by
  intro I R J h
  obtain ⟨hPR, ⟨A, hC, hJ, hok⟩, ⟨ns, AH, pt, hX⟩, hK, ⟨tl, t1, t2, t3, t4⟩, hS⟩ := h
  refine ⟨mc_u I 147 1 0, mc_u J 0 4 0, nI tl, ?_, ?_, hPR, ⟨A, ?_, ?_, hok⟩, ⟨ns, AH, pt, ?_⟩, ?_, ⟨0, by omega, ?_, ?_, fun k hk => by omega⟩, ?_⟩
  · unfold mi_X8_clearText
    rw [t2]
    rfl
  · unfold mi_X9_clearText
    rw [t3]
    rfl
  · exact zc_keep hok.1 hPR.1 hC (fun x x1 x2 => mz_ux _ (by omega)) rfl
  · exact zr_keep hok.1 hJ (fun i i1 i2 => by rw [mz_ux _ (by omega)])
  · exact hX.keep (fun x x1 x2 => mz_ux _ (by omega)) (by rw [mz_ux _ (by omega)]) (fun _ _ => rfl) (by rw [mz_u, if_neg (by omega)]) (fun i i1 i2 => by rw [mz_ux _ (by omega)])
  · exact hK.keep hPR.2.2.2 (fun x x1 x2 => mz_ux _ (by omega)) (by rw [mz_ux _ (by omega)]) rfl (by rw [mz_u, if_neg (by omega)]) (fun i i1 i2 => by rw [mz_ux _ (by omega)])
  · rw [mz_u, if_pos ⟨rfl, rfl⟩]
    rfl
  · rw [mz_u, if_pos ⟨rfl, rfl⟩]
    rfl
  · exact hS.keep (mz_ux _ (by omega)) (by rw [mz_u, if_neg (by omega)]) (by rw [mz_u, if_neg (by omega)])
theorem zo_type {F : Nat} : oq_type F zz_Rel := by
  intro I R J x h hx
  have h' := h
  obtain ⟨z, rfl⟩ := hx
  obtain ⟨c, c1, c2⟩ := zn_chr z
  rw [c2]
  obtain ⟨hPR, ⟨A, hC, hJ, hok⟩, ⟨ns, AH, pt, hX⟩, hK, ⟨tl, t1, t2, t3, t4⟩, hS⟩ := h
  unfold mi_X8_type mi_X9_type mi_X6_append
  rw [t2, t3]
  by_cases c0 : tl = 60
  · subst c0
    rw [if_neg (show ¬ nI 60 < 0 by decide), if_neg (show ¬ nI 60 < 60 by decide), mz_ob2, if_pos rfl, if_pos (show nI 60 = 60 from rfl)]
    exact ⟨I, J, _, rfl, rfl, h'⟩
  · rw [if_neg (show ¬ nI tl < 0 from zl_nlt (b := 0) (by omega) (by omega)), if_pos (show nI tl < 60 from zl_lt (b := 60) (by omega) (by omega)), if_neg (show ¬ nI tl = 60 from fun q => c0 ((nI_eq (b := 60) (by omega) (by omega)).mp q)), zn_nar c1]
    have e0 : (nI tl < 0 ∨ 60 ≤ (nI tl).toNatClampNeg) = False := by simp (disch := omega) only [zi_lit, zi_add, zi_mul, zi_le, zi_lt, zi_cl, Nat.not_lt_zero, zn_nle, zn_yle, zn_nlt, zn_ylt, if_false, if_true, or_false, false_or, mz_bn]
    simp only [e0, if_false]
    simp only [zi_cl (show tl < 2147483648 by omega), mz_bn]
    rw [show mc_u I 148 tl (nI c) 147 1 = nI tl by rw [mz_u, if_neg (by omega)]; exact t2, show mc_u J 2 tl (nI c) 0 4 = nI tl by rw [mz_u, if_neg (by omega)]; exact t3, show nI tl + 1 = nI (tl + 1) from nI_add tl 1, mz_ob2, if_neg (show ¬ (1 : Int32) = 0 by decide)]
    refine ⟨mc_u (mc_u I 148 tl (nI c)) 147 1 (nI (tl + 1)), mc_u (mc_u J 2 tl (nI c)) 0 4 (nI (tl + 1)), nI (tl + 1), ?_, ?_, hPR, ⟨A, ?_, ?_, hok⟩, ⟨ns, AH, pt, ?_⟩, ?_, ⟨tl + 1, by omega, ?_, ?_, fun k hk => ?_⟩, ?_⟩
    · rw [mz_u, if_pos ⟨rfl, rfl⟩]
    · rw [mz_u, if_pos ⟨rfl, rfl⟩]
    · exact zc_keep hok.1 hPR.1 hC (fun x x1 x2 => by rw [mz_ux _ (by omega), mz_ux _ (by omega)]) rfl
    · exact zr_keep hok.1 hJ (fun i i1 i2 => by rw [mz_ux _ (by omega), mz_ux _ (by omega)])
    · exact hX.keep (fun x x1 x2 => by rw [mz_ux _ (by omega), mz_ux _ (by omega)]) (by rw [mz_ux _ (by omega), mz_ux _ (by omega)]) (fun _ _ => rfl) (by rw [mz_u, if_neg (by omega), mz_u, if_neg (by omega)]) (fun i i1 i2 => by rw [mz_ux _ (by omega), mz_ux _ (by omega)])
    · exact hK.keep hPR.2.2.2 (fun x x1 x2 => by rw [mz_ux _ (by omega), mz_ux _ (by omega)]) (by rw [mz_ux _ (by omega), mz_ux _ (by omega)]) rfl (by rw [mz_u, if_neg (by omega), mz_u, if_neg (by omega)]) (fun i i1 i2 => by rw [mz_ux _ (by omega), mz_ux _ (by omega)])
    · rw [mz_u, if_pos ⟨rfl, rfl⟩]
    · rw [mz_u, if_pos ⟨rfl, rfl⟩]
    · rw [mz_ux _ (show 148 ≠ 147 by omega), mz_ux _ (show 2 ≠ 0 by omega), mz_u, mz_u]
      by_cases e : k = tl
      · rw [if_pos ⟨rfl, e⟩, if_pos ⟨rfl, e⟩]
        exact ⟨c, c1, rfl, rfl⟩
      · rw [if_neg (fun q => e q.2), if_neg (fun q => e q.2)]
        exact t4 k (by omega)
    · exact hS.keep (by rw [mz_ux _ (by omega), mz_ux _ (by omega)]) (by rw [mz_u, if_neg (by omega), mz_u, if_neg (by omega)]) (by rw [mz_u, if_neg (by omega), mz_u, if_neg (by omega)])
theorem zc_nb {I : Nat → Nat → Int32} {R : Nat → Nat → Option Nat} {a : Nat} {A : mz_A} (hC : zz_CS I R a A) : I a 4 = nI (mz_nb A) := by
  obtain ⟨p, sl, lo, nb, nm, mb, ms, sc, bt⟩ := A
  exact hC.1.2.2.2.1
theorem zr_nb {J : Nat → Nat → Int32} {b : Nat} {A : mz_A} (hC : zz_RS J b A) : J 1 (b + 4) = nI (mz_nb A) := by
  obtain ⟨p, sl, lo, nb, nm, mb, ms, sc, bt⟩ := A
  exact hC.1.2.2.2.2.1
theorem zo_undo {F : Nat} (hF : 1100 ≤ F) : oq_undo F zz_Rel := by
  intro I R J h
  have h' := h
  obtain ⟨hPR, ⟨A, hC, hJ, hok⟩, ⟨ns, AH, pt, hX⟩, hK, hT, hS⟩ := h
  obtain ⟨a1, a2, a3, a4, a5⟩ := id hX
  unfold mi_X8_undo mi_X9_undo mi_X3_takeLatest
  rw [a2, a3]
  simp only [mz_bn]
  by_cases c0 : ns = 0
  · subst c0
    rw [if_pos (show nI 0 - 1 < 0 by decide), if_pos (show nI 0 = 0 from rfl)]
    unfold mi_X3_takeLatest_J26
    rw [mz_omn, mz_ob2, if_pos rfl]
    exact ⟨I, J, _, rfl, rfl, h'⟩
  · obtain ⟨m, rfl⟩ : ∃ m, ns = m + 1 := ⟨ns - 1, by omega⟩
    obtain ⟨b1, b2, b3, b4⟩ := a4 m (by omega)
    obtain ⟨g1, g2, g3⟩ := a5 m (by omega)
    have hrg := a4.rng (show m < 4 by omega)
    rw [show nI (m + 1) - 1 = nI m from pk_sub (a := m + 1) (b := 1) (by omega), if_neg (show ¬ nI m < 0 from zl_nlt (b := 0) (by omega) (by omega)), if_neg (show ¬ (4 : Int32) ≤ nI m from zl_nle (a := 4) (by omega) (by omega)), if_neg (show ¬ nI (m + 1) = 0 from fun q => by have := (nI_eq (b := 0) (by omega) (by omega)).mp q; omega)]
    have e0 : (nI m < 0 ∨ 4 ≤ (nI m).toNatClampNeg) = False := by simp (disch := omega) only [zi_lit, zi_add, zi_mul, zi_le, zi_lt, zi_cl, Nat.not_lt_zero, zn_nle, zn_yle, zn_nlt, zn_ylt, if_false, if_true, or_false, false_or, mz_bn]
    simp only [e0, if_false]
    rw [zi_cl (show m < 2147483648 by omega), b1]
    unfold mi_X3_takeLatest_J26
    rw [mz_oms]
    obtain ⟨I2, c1, c2, c3⟩ := zc_copyFrom (F := F) (by omega) hPR.1 b2 (by omega) g3.1 g1
    obtain ⟨J2, e1, e2, e3⟩ := zr_copies (J := J) (F := F) (r1 := m + 1) (r2 := 0) (by omega) (by omega) (by omega) (by omega)
    rw [c1, mz_ob, mz_bn, mz_ob2, if_neg (show ¬ (1 : Int32) = 0 by decide), show mi_X9_copies F J (nI (m + 1)) 0 = some J2 from e1, mz_ob, e2.1 0 (by omega), a3, show nI (m + 1) - 1 = nI m from pk_sub (a := m + 1) (b := 1) (by omega)]
    have k2 := hK.keep (I1 := mc_u I2 145 1 (nI m)) (R1 := R) (J1 := mc_u J2 0 1 (nI m)) hPR.2.2.2 (fun x x1 x2 => by rw [mz_ux _ (by omega), c2 x (by omega)]) (by rw [mz_ux _ (by omega), c2 144 (by omega)]) rfl (by rw [mz_u, if_neg (by omega), e2.1 0 (by omega)]) (fun i i1 i2 => by rw [mz_ux _ (by omega), e2.2 i (by omega)])
    have k3 := hT.keep (I1 := mc_u I2 145 1 (nI m)) (J1 := mc_u J2 0 1 (nI m)) (by rw [mz_ux _ (by omega), c2 147 (by omega)]) (by rw [mz_ux _ (by omega), c2 148 (by omega)]) (by rw [mz_u, if_neg (by omega), e2.1 0 (by omega)]) (by rw [mz_ux _ (by omega), e2.1 2 (by omega)])
    have k4 := hS.keep (I1 := mc_u I2 145 1 (nI m)) (J1 := mc_u J2 0 1 (nI m)) (by rw [mz_ux _ (by omega), c2 144 (by omega)]) (by rw [mz_u, if_neg (by omega), e2.1 0 (by omega)]) (by rw [mz_u, if_neg (by omega), e2.1 0 (by omega)])
    refine ⟨mc_u I2 145 1 (nI m), mc_u J2 0 1 (nI m), nI m, ?_, ?_, hPR, ⟨AH m, ?_, ?_, g3⟩, ⟨m, AH, pt, ⟨by omega, ?_, ?_, a4, fun j hj => ?_⟩⟩, k2, k3, k4⟩
    · rw [mz_u, if_pos ⟨rfl, rfl⟩]
    · rw [mz_u, if_pos ⟨rfl, rfl⟩]
    · exact zc_keep g3.1 hPR.1 c3 (fun x x1 x2 => mz_ux _ (by omega)) rfl
    · refine zr_like g3.1 g2 (fun j hj => ?_)
      rw [mz_ux _ (by omega)]
      exact e3 j hj
    · rw [mz_u, if_pos ⟨rfl, rfl⟩]
    · rw [mz_u, if_pos ⟨rfl, rfl⟩]
    · obtain ⟨y1, y2, y3⟩ := a5 j (by omega)
      have hrj := a4.rng (show j < 4 by omega)
      exact ⟨zc_keep y3.1 (a4 j (by omega)).2.1 y1 (fun x x1 x2 => by rw [mz_ux _ (by omega), c2 x (by omega)]) rfl, zr_keep y3.1 y2 (fun i i1 i2 => by rw [mz_ux _ (by omega), e2.2 i (by omega)]), y3⟩
theorem zo_keep {F : Nat} (hF : 1100 ≤ F) : oq_keep F zz_Rel := by
  intro I R J h
  obtain ⟨hPR, ⟨A, hC, hJ, hok⟩, ⟨ns, AH, pt, hX⟩, hK, hT, hS⟩ := h
  unfold mi_X8_keep mi_X9_keep
  obtain ⟨I2, c1, c2, c3⟩ := zc_copyFrom (F := F) (by omega) hPR.2.2.2 hPR.1 (by omega) hok.1 hC
  obtain ⟨J2, e1, e2, e3⟩ := zr_copies (J := J) (F := F) (r1 := 0) (r2 := 5) (by omega) (by omega) (by omega) (by omega)
  rw [c1, mz_ob, show mi_X9_copies F J 0 5 = some J2 from e1, mz_ob]
  have hC1 : zz_CS (mc_u I2 144 4 1) R 0 A := zc_keep hok.1 hPR.1 hC (fun x x1 x2 => by rw [mz_ux _ (by omega), c2 x (by omega)]) rfl
  have hJ1 : zz_RS (mc_u J2 0 2 1) 0 A := zr_keep hok.1 hJ (fun i i1 i2 => by rw [mz_ux _ (by omega), e2.2 i (by omega)])
  have b4 : ((4 : Int32) < 0 ∨ 1416 ≤ (4 : Int32).toNatClampNeg) = False := by decide
  have c4 : (4 : Int32).toNatClampNeg = 4 := by decide
  simp only [b4, if_false]
  simp only [c4, mz_bn]
  rw [show mc_u I2 144 4 1 0 4 = nI (mz_nb A) from zc_nb hC1, show mc_u J2 0 2 1 1 4 = nI (mz_nb A) from zr_nb hJ1]
  refine ⟨_, _, nI (mz_nb A), rfl, rfl, hPR, ⟨A, hC1, hJ1, hok⟩, ⟨ns, AH, pt, ?_⟩, Or.inr ⟨?_, ?_, A, ?_, ?_, hok⟩, ?_, ?_⟩
  · exact hX.keep (fun x x1 x2 => by rw [mz_ux _ (by omega), c2 x (by omega)]) (by rw [mz_ux _ (by omega), c2 _ (by omega)]) (fun _ _ => rfl) (by rw [mz_u, if_neg (by omega), e2.1 0 (by omega)]) (fun i i1 i2 => by rw [mz_ux _ (by omega), e2.2 i (by omega)])
  · rw [mz_u, if_pos ⟨rfl, rfl⟩]
  · rw [mz_u, if_pos ⟨rfl, rfl⟩]
  · exact zc_keep hok.1 hPR.2.2.2 c3 (fun x x1 x2 => mz_ux _ (by omega)) rfl
  · refine zr_like hok.1 hJ (fun j hj => ?_)
    rw [mz_ux _ (by omega)]
    exact e3 j hj
  · exact hT.keep (by rw [mz_ux _ (by omega), c2 _ (by omega)]) (by rw [mz_ux _ (by omega), c2 _ (by omega)]) (by rw [mz_u, if_neg (by omega), e2.1 0 (by omega)]) (by rw [mz_ux _ (by omega), e2.1 2 (by omega)])
  · have e144 : ∀ k, k ≠ 4 → mc_u I2 144 4 1 144 k = I 144 k := fun k hk => by rw [mz_u, if_neg (fun q => hk q.2), c2 144 (by omega)]
    have e0 : ∀ k, k ≠ 2 → mc_u J2 0 2 1 0 k = J 0 k := fun k hk => by rw [mz_u, if_neg (fun q => hk q.2), e2.1 0 (by omega)]
    unfold zz_PS
    rw [e144 8 (by omega), e144 9 (by omega), e144 10 (by omega), e0 5 (by omega), e0 6 (by omega)]
    exact hS
theorem zo_restore {F : Nat} (hF : 1100 ≤ F) : oq_restore F zz_Rel := by
  intro I R J h
  have h' := h
  obtain ⟨hPR, ⟨A, hC, hJ, hok⟩, ⟨ns, AH, pt, hX⟩, hK, hT, hS⟩ := h
  unfold mi_X8_restore mi_X9_restore
  rcases id hK with ⟨k1, k2⟩ | ⟨k1, k2, AK, k3, k4, k5⟩
  · rw [k1, k2, if_pos rfl, if_pos rfl]
    exact ⟨I, R, J, _, rfl, rfl, h'⟩
  · rw [k1, k2, if_neg (show ¬ (1 : Int32) = 0 by decide), if_neg (show ¬ (1 : Int32) = 0 by decide)]
    obtain ⟨I3, R3, J3, ns3, AH3, pt3, g1, g2, g3, g4, g5, g6, g7, g8⟩ := za_add (F := F) (s := 0) (r := 0) (by omega) hX (by omega) (Or.inl rfl) hPR.1 hC hJ hok
    have hPR3 : zz_PR R3 := ⟨zc_RWkeep hPR.1 (g5 _ (by omega)), zc_RWkeep hPR.2.1 (g5 _ (by omega)), zc_RWkeep hPR.2.2.1 (g5 _ (by omega)), zc_RWkeep hPR.2.2.2 (g5 _ (by omega))⟩
    have hK3 : zz_CS I3 R3 54 AK := zc_keep k5.1 hPR.2.2.2 k3 (fun x x1 x2 => g4 x (by omega)) (g5 _ (by omega))
    have hL3 : zz_RS J3 885 AK := zr_keep k5.1 k4 (fun i i1 i2 => g8 i (by omega))
    obtain ⟨I2, c1, c2, c3⟩ := zc_copyFrom (F := F) (by omega) hPR3.1 hPR3.2.2.2 (by omega) k5.1 hK3
    obtain ⟨J2, e1, e2, e3⟩ := zr_copies (J := J3) (F := F) (r1 := 5) (r2 := 0) (by omega) (by omega) (by omega) (by omega)
    have hJ2 : zz_RS J2 0 AK := zr_like k5.1 hL3 (fun j hj => by have := e3 j hj; rw [show 177 * 0 + j = 0 + j by omega] at this; exact this)
    rw [g1, mz_ob2, c1, mz_ob, show mi_X9_records F J 0 = some J3 from g2, mz_ob, show mi_X9_copies F J3 5 0 = some J2 from e1, mz_ob]
    have b4 : ((4 : Int32) < 0 ∨ 1416 ≤ (4 : Int32).toNatClampNeg) = False := by decide
    have c4 : (4 : Int32).toNatClampNeg = 4 := by decide
    simp only [b4, if_false]
    simp only [c4]
    rw [show I2 0 4 = nI (mz_nb AK) from zc_nb c3, show J2 1 4 = nI (mz_nb AK) from zr_nb hJ2]
    refine ⟨I2, R3, J2, nI (mz_nb AK), rfl, rfl, hPR3, ⟨AK, c3, hJ2, k5⟩, ⟨ns3, AH3, pt3, ?_⟩, ?_, ?_, ?_⟩
    · exact g3.keep (fun x x1 x2 => c2 x (by omega)) (by rw [c2 _ (by omega)]) (fun _ _ => rfl) (by rw [e2.1 0 (by omega)]) (fun i i1 i2 => e2.2 i (by omega))
    · exact hK.keep hPR.2.2.2 (fun x x1 x2 => by rw [c2 x (by omega), g4 x (by omega)]) (by rw [c2 _ (by omega), g4 _ (by omega)]) (g5 _ (by omega)) (by rw [e2.1 0 (by omega), g7 2 (by omega)]) (fun i i1 i2 => by rw [e2.2 i (by omega), g8 i (by omega)])
    · exact hT.keep (by rw [c2 _ (by omega), g4 _ (by omega)]) (by rw [c2 _ (by omega), g4 _ (by omega)]) (by rw [e2.1 0 (by omega), g7 4 (by omega)]) (by rw [e2.1 2 (by omega), g6 2 (by omega) (by omega)])
    · exact hS.keep (by rw [c2 _ (by omega), g4 _ (by omega)]) (by rw [e2.1 0 (by omega), g7 5 (by omega)]) (by rw [e2.1 0 (by omega), g7 6 (by omega)])

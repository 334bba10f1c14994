/-! perform -/
def sp_S (c : Nat) (v : Int32) : mz_A → mz_A × Int32 := if c = 33 then sq_send else if c = 43 then sq_pay v else if c = 45 then sq_pay (-v) else if c = 46 then sq_pass v else if c = 47 then sq_slope v else if c = 98 then sq_clamp 0 else sq_clamp 1
theorem za_m {β : Type} (z : Option ((Nat → Nat → Int32) × Int32)) : (mc_ob2 z fun I r => some (I, r)) = z := by
  cases z with
  | none => rfl
  | some q => rfl
theorem za_m3 (z : Option ((Nat → Nat → Int32) × (Nat → Nat → Option Nat) × Int32)) : (mc_ob3 z fun I R r => some (I, R, r)) = z := by
  cases z with
  | none => rfl
  | some q => rfl
theorem za_do {F c : Nat} {v : Int32} (hF : 1100 ≤ F) (hc : c = 33 ∨ c = 98 ∨ c = 109 ∨ c = 43 ∨ c = 45 ∨ c = 46 ∨ c = 47) {A : mz_A} (hok : zz_ok A) : zz_ok (sp_S c v A).1 ∧ (∀ I R, zz_CS I R 0 A → zz_RW R 0 → ∃ I1 R1, mi_X8_doThing F I R (nI c) v = some (I1, R1, (sp_S c v A).2) ∧ zz_fr 0 I I1 ∧ zz_frR 0 R R1 ∧ zz_RW R1 0 ∧ zz_CS I1 R1 0 (sp_S c v A).1) ∧ (∀ J, zz_RS J 0 A → J 0 8 = v → ∃ J1, mi_X9_does F J (nI c) = some (J1, (sp_S c v A).2) ∧ zz_frJ 0 J J1 ∧ zz_RS J1 0 (sp_S c v A).1) := by
  rcases hc with rfl | rfl | rfl | rfl | rfl | rfl | rfl
  · obtain ⟨a, b, d⟩ := za_send hF A hok
    refine ⟨a, fun I R hC hR => ?_, fun J hJ hv => ?_⟩
    · have h := b I R hC hR
      unfold mi_X8_doThing
      repeat (first | rw [if_neg (by decide)] | rw [if_pos (by decide)])
      exact h
    · unfold mi_X9_does
      repeat (first | rw [if_neg (by decide)] | rw [if_pos (by decide)])
      rw [za_m (β := Nat)]
      exact d J hJ
  · obtain ⟨a, b, d⟩ := za_clamp (x := 0) hF (by omega) A hok
    refine ⟨a, fun I R hC hR => ?_, fun J hJ hv => ?_⟩
    · have h := b I R hC hR
      unfold mi_X8_doThing
      repeat (first | rw [if_neg (by decide)] | rw [if_pos (by decide)])
      rw [za_m3]
      exact h
    · unfold mi_X9_does
      repeat (first | rw [if_neg (by decide)] | rw [if_pos (by decide)])
      rw [za_m (β := Nat)]
      exact d J hJ
  · obtain ⟨a, b, d⟩ := za_clamp (x := 1) hF (by omega) A hok
    refine ⟨a, fun I R hC hR => ?_, fun J hJ hv => ?_⟩
    · have h := b I R hC hR
      unfold mi_X8_doThing
      repeat (first | rw [if_neg (by decide)] | rw [if_pos (by decide)])
      rw [za_m3]
      exact h
    · unfold mi_X9_does
      repeat (first | rw [if_neg (by decide)] | rw [if_pos (by decide)])
      rw [za_m (β := Nat)]
      exact d J hJ
  · obtain ⟨a, b, d⟩ := za_pay hF v A hok
    refine ⟨a, fun I R hC hR => ?_, fun J hJ hv => ?_⟩
    · have h := b I R hC hR
      unfold mi_X8_doThing
      repeat (first | rw [if_neg (by decide)] | rw [if_pos (by decide)])
      exact h
    · unfold mi_X9_does
      repeat (first | rw [if_neg (by decide)] | rw [if_pos (by decide)])
      rw [za_m (β := Nat), hv]
      exact d J hJ
  · obtain ⟨a, b, d⟩ := za_pay hF (-v) A hok
    refine ⟨a, fun I R hC hR => ?_, fun J hJ hv => ?_⟩
    · have h := b I R hC hR
      unfold mi_X8_doThing
      repeat (first | rw [if_neg (by decide)] | rw [if_pos (by decide)])
      exact h
    · unfold mi_X9_does
      repeat (first | rw [if_neg (by decide)] | rw [if_pos (by decide)])
      rw [za_m (β := Nat), hv]
      exact d J hJ
  · obtain ⟨a, b, d⟩ := za_pass hF v A hok
    refine ⟨a, fun I R hC hR => ?_, fun J hJ hv => ?_⟩
    · have h := b I R hC hR
      unfold mi_X8_doThing
      repeat (first | rw [if_neg (by decide)] | rw [if_pos (by decide)])
      exact h
    · unfold mi_X9_does
      repeat (first | rw [if_neg (by decide)] | rw [if_pos (by decide)])
      rw [za_m (β := Nat), hv]
      exact d J hJ
  · obtain ⟨a, b, d⟩ := za_slope v A hok
    refine ⟨a, fun I R hC hR => ?_, fun J hJ hv => ?_⟩
    · have h := b I R hC hR
      unfold mi_X8_doThing
      repeat (first | rw [if_neg (by decide)] | rw [if_pos (by decide)])
      exact h
    · unfold mi_X9_does
      repeat (first | rw [if_neg (by decide)] | rw [if_pos (by decide)])
      rw [za_m (β := Nat), hv]
      exact d J hJ
theorem zz_PT.of {I J : Nat → Nat → Int32} {T : Nat → Nat} {tl : Nat} (h1 : zz_TX I T tl) (h2 : zz_TR J T tl) : zz_PT I J := ⟨tl, h1.2.2.1, h1.1, h2.1, fun k hk => ⟨T k, h1.2.2.2 k hk, h1.2.1 k hk, h2.2.1 k hk⟩⟩
theorem zp_L {F tl : Nat} {T : Nat → Nat} {AB : mz_A} (hF : 1100 ≤ F) (hAB : zz_ok AB) : ∀ (n : Nat) (ts : List (Nat × Nat)) (i s : Nat) (A : mz_A) (I : Nat → Nat → Int32) (R : Nat → Nat → Option Nat) (J : Nat → Nat → Int32), ts.length < n → zz_PR R → zz_CS I R 0 A → zz_RS J 0 A → zz_ok A → zz_CS I R 18 AB → zz_RS J 1062 AB → zz_PX I R J → zz_PK I R J → zz_PS I J → zz_TX I T tl → zz_TR J T tl → J 0 7 = nI s → s ≤ 99 → I 149 2 = nI (i + ts.length) → i + ts.length ≤ 60 → (∀ q t, ts[q]? = some t → I 150 (i + q) = nI t.1 ∧ I 151 (i + q) = nI t.2) → ((ts = [] ∧ tl ≤ s) ∨ (s ≤ tl ∧ ∃ m, sp_rd T tl m s = (none, ts) ∧ ts ≠ [])) → ∃ I1 R1 J1 r, mi_X8_perform_L36 F n I R (nI i) = some (I1, R1, r) ∧ mi_X9_perform_L32 F n J (nI i) = some (J1, r) ∧ zz_Rel I1 R1 J1 := by
  intro n
  induction n with
  | zero => intro ts i s A I R J h; omega
  | succ n ih =>
    intro ts i s A I R J hn hPR hC hJ hok hCB hJB hX hK hS hTX hTR h7 hs h2 hi60 harr hcase
    show ∃ I1 R1 J1 r, mi_X8_perform_B36 _ F I R _ = _ ∧ mi_X9_perform_B32 _ F J _ = _ ∧ _
    have htl := hTX.2.2.1
    have hPT := zz_PT.of hTX hTR
    unfold mi_X8_perform_B36 mi_X9_perform_B32
    rw [h2, hTR.1, h7]
    cases ts with
    | nil =>
      have hst : tl ≤ s := by
        rcases hcase with ⟨-, q⟩ | ⟨-, m, -, q⟩
        · exact q
        · exact absurd rfl q
      rw [if_pos (show nI (i + ([] : List (Nat × Nat)).length) ≤ nI i from zl_le (Nat.le_refl _) (by omega)), if_pos (zl_le hst (by omega))]
      obtain ⟨ns, AH, pt, hPH⟩ := hX
      obtain ⟨I4, R4, J4, ns4, AH4, pt4, g1, g2, g3, g4, g5, g6, g7, g8⟩ := za_add (F := F) (r := 6) (by omega) hPH (s := 18) (by omega) (Or.inr rfl) hPR.2.1 hCB hJB hAB
      rw [g1, mz_ob2, show mi_X9_records F J 6 = some J4 from g2, mz_ob, g4 149 (by omega), h2]
      refine ⟨I4, R4, J4, _, rfl, rfl, ?_, ⟨A, ?_, ?_, hok⟩, ⟨ns4, AH4, pt4, g3⟩, ?_, ?_, ?_⟩
      · exact ⟨zc_RWkeep hPR.1 (g5 _ (by omega)), zc_RWkeep hPR.2.1 (g5 _ (by omega)), zc_RWkeep hPR.2.2.1 (g5 _ (by omega)), zc_RWkeep hPR.2.2.2 (g5 _ (by omega))⟩
      · exact zc_keep hok.1 hPR.1 hC (fun x x1 x2 => g4 x (by omega)) (g5 _ (by omega))
      · exact zr_keep hok.1 hJ (fun i i1 i2 => g8 i (by omega))
      · exact hK.keep hPR.2.2.2 (fun x x1 x2 => g4 x (by omega)) (by rw [g4 _ (by omega)]) (g5 _ (by omega)) (g7 2 (by omega)) (fun i i1 i2 => g8 i (by omega))
      · exact hPT.keep (by rw [g4 _ (by omega)]) (g4 _ (by omega)) (g7 4 (by omega)) (g6 2 (by omega) (by omega))
      · exact hS.keep (g4 _ (by omega)) (g7 5 (by omega)) (g7 6 (by omega))
    | cons t ts =>
      rw [List.length_cons] at hn h2 hi60 ⊢
      obtain ⟨hstl, m0, hm0, -⟩ : s ≤ tl ∧ ∃ m, sp_rd T tl m s = (none, t :: ts) ∧ (t :: ts) ≠ [] := by
        rcases hcase with ⟨q, -⟩ | q
        · cases q
        · exact q
      obtain ⟨m, rfl⟩ : ∃ m, m0 = m + 1 := by
        cases m0 with
        | zero =>
          exact absurd (congrArg Prod.fst hm0) (by intro q; cases q)
        | succ m => exact ⟨m, rfl⟩
      obtain ⟨at1, at2⟩ := harr 0 t rfl
      rw [Nat.add_zero] at at1 at2
      unfold sp_rd at hm0
      cases hth : sp_thing T tl s with
      | mk o s1 =>
        rw [hth] at hm0
        cases o with
        | none =>
          dsimp only at hm0
          exact absurd (congrArg Prod.fst hm0) (by intro q; cases q)
        | some t' =>
          dsimp only at hm0
          have hthok := sp_thing_ok hth
          have htt : t' = t ∧ ((s1 < tl ∧ T s1 = 59 ∧ sp_rd T tl m (s1 + 1) = (none, ts)) ∨ (¬ s1 < tl ∧ ts = [])) := by
            by_cases c1 : s1 < tl
            · rw [if_pos c1] at hm0
              by_cases c2 : T s1 = 59
              · rw [if_pos c2] at hm0
                have f1 := congrArg Prod.fst hm0
                have f2 := congrArg Prod.snd hm0
                dsimp only at f1 f2
                injection f2 with f3 f4
                refine ⟨f3, Or.inl ⟨c1, c2, ?_⟩⟩
                rw [← f1, ← f4]
              · rw [if_neg c2] at hm0
                exact absurd (congrArg Prod.fst hm0) (by intro q; cases q)
            · rw [if_neg c1] at hm0
              have f2 := congrArg Prod.snd hm0
              dsimp only at f2
              injection f2 with f3 f4
              exact ⟨f3, Or.inr ⟨c1, f4.symm⟩⟩
          obtain ⟨rfl, hnext⟩ := htt
          have hs1 : s1 ≤ tl := hthok.2.2.1
          rw [if_neg (show ¬ nI (i + (ts.length + 1)) ≤ nI i from zl_nle (by omega) (by omega)), if_neg (zl_nle hthok.1 (by omega))]
          have hk : mi_X2_kindAt I (nI i) = some (nI t'.1) := by
            unfold mi_X2_kindAt
            have e0 : (nI i < 0 ∨ 60 ≤ (nI i).toNatClampNeg) = False := by simp (disch := omega) only [zi_lit, zi_add, zi_mul, zi_le, zi_lt, zi_cl, Nat.not_lt_zero, zn_nle, zn_yle, zn_nlt, zn_ylt, if_false, if_true, or_false, false_or, mz_bn]
            rw [if_neg (show ¬ nI i < 0 from zl_nlt (b := 0) (by omega) (by omega)), if_neg (show ¬ (60 : Int32) ≤ nI i from zl_nle (a := 60) (by omega) (by omega))]
            simp only [e0, if_false]
            rw [zi_cl (show i < 2147483648 by omega), at1, zn_nar (by omega), if_neg (fun q => q rfl)]
          have hnum : mi_X2_numberAt I (nI i) = some (nI t'.2) := by
            unfold mi_X2_numberAt
            have e0 : (nI i < 0 ∨ 60 ≤ (nI i).toNatClampNeg) = False := by simp (disch := omega) only [zi_lit, zi_add, zi_mul, zi_le, zi_lt, zi_cl, Nat.not_lt_zero, zn_nle, zn_yle, zn_nlt, zn_ylt, if_false, if_true, or_false, false_or, mz_bn]
            rw [if_neg (show ¬ nI i < 0 from zl_nlt (b := 0) (by omega) (by omega)), if_neg (show ¬ (60 : Int32) ≤ nI i from zl_nle (a := 60) (by omega) (by omega))]
            simp only [e0, if_false]
            rw [zi_cl (show i < 2147483648 by omega), at2]
          rw [hk, mz_ob, hnum, mz_ob]
          obtain ⟨J2, a1, a2, a3, a4, a5⟩ := zr_part (s := s) hF hTR h7 hs
          rw [hth] at a1 a4 a5
          dsimp only at a1 a4 a5
          have a8 := a5 t' rfl
          obtain ⟨b1, b2, b3⟩ := za_do (v := nI t'.2) hF hthok.2.2.2.2 hok
          have hJ2 : zz_RS J2 0 A := zr_keep hok.1 hJ (fun i i1 i2 => by rw [a2 1 (by omega)])
          obtain ⟨I3, R3, d1, d2, d3, d4, d5⟩ := b2 I R hC hPR.1
          obtain ⟨J3, f1, f2, f3⟩ := b3 J2 hJ2 a8
          rw [d1, mz_ob3, a1, mz_ob2, f1, mz_ob2, za_isDone]
          have hPR3 : zz_PR R3 := hPR.keep d4 (fun x x1 x2 => d3 x (by omega))
          have hJ0 : ∀ j, j ≠ 7 → j ≠ 8 → J3 0 j = J 0 j := fun j j1 j2 => by rw [f2.1 0 (by omega), a3 j j1 j2]
          have hJ1 : ∀ i, 177 ≤ i → J3 1 i = J 1 i := fun i i1 => by rw [f2.2 i (by omega), a2 1 (by omega)]
          have hJ22 : J3 2 = J 2 := by rw [f2.1 2 (by omega), a2 2 (by omega)]
          have e37 : J3 0 7 = nI s1 := by rw [f2.1 0 (by omega)]; exact a4
          have hCB3 : zz_CS I3 R3 18 AB := zc_keep hAB.1 hPR.2.1 hCB (fun x x1 x2 => d2 x (by omega)) (d3 _ (by omega))
          have hJB3 : zz_RS J3 1062 AB := zr_keep hAB.1 hJB (fun i i1 i2 => hJ1 i (by omega))
          obtain ⟨k1, k2, k3, k4⟩ := za_rest (I1 := I3) (R1 := R3) (J1 := J3) hPR hX hK hPT hS (fun x x1 x2 => d2 x (by omega)) (fun x hx => d3 x (by omega)) hJ0 (fun i i1 i2 => hJ1 i i1) hJ22
          have hTX3 : zz_TX I3 T tl := hTX.keep (d2 _ (by omega)) (d2 _ (by omega))
          have hTR3 : zz_TR J3 T tl := hTR.keep (hJ0 4 (by omega) (by omega)) hJ22
          have go : ∃ I1 R1 J1 r, mi_X8_perform_L36 F n I3 R3 (nI (i + 1)) = some (I1, R1, r) ∧ mi_X9_perform_L32 F n (mc_u J3 0 7 (nI (s1 + 1))) (nI (i + 1)) = some (J1, r) ∧ zz_Rel I1 R1 J1 := by
            have hX4 : zz_PX I3 R3 (mc_u J3 0 7 (nI (s1 + 1))) := by
              obtain ⟨ns, AH, pt, hPH⟩ := k1
              exact ⟨ns, AH, pt, hPH.keep (fun _ _ _ => rfl) rfl (fun _ _ => rfl) (by rw [mz_u, if_neg (by omega)]) (fun i i1 i2 => by rw [mz_ux _ (by omega)])⟩
            refine ih ts (i + 1) (s1 + 1) (sp_S t'.1 (nI t'.2) A).1 I3 R3 (mc_u J3 0 7 (nI (s1 + 1))) (by omega) hPR3 d5 ?_ b1 hCB3 ?_ hX4 ?_ ?_ hTX3 ?_ ?_ (by omega) ?_ (by omega) (fun q t hq => ?_) ?_
            · exact zr_keep b1.1 f3 (fun i i1 i2 => by rw [mz_ux _ (by omega)])
            · exact zr_keep hAB.1 hJB3 (fun i i1 i2 => by rw [mz_ux _ (by omega)])
            · exact k2.keep hPR3.2.2.2 (fun _ _ _ => rfl) rfl rfl (by rw [mz_u, if_neg (by omega)]) (fun i i1 i2 => by rw [mz_ux _ (by omega)])
            · exact k4.keep rfl (by rw [mz_u, if_neg (by omega)]) (by rw [mz_u, if_neg (by omega)])
            · exact hTR3.keep (by rw [mz_u, if_neg (by omega)]) (mz_ux _ (by omega))
            · rw [mz_u, if_pos ⟨rfl, rfl⟩]
            · rw [d2 149 (by omega), h2, show i + (ts.length + 1) = i + 1 + ts.length by omega]
            · rw [d2 150 (by omega), d2 151 (by omega), show i + 1 + q = i + (q + 1) by omega]
              exact harr (q + 1) t (by rw [List.getElem?_cons_succ]; exact hq)
            · rcases hnext with ⟨c1, c2, c3⟩ | ⟨c1, c2⟩
              · refine Or.inr ⟨by omega, m, c3, ?_⟩
                have := (sp_rd_ok (T := T) (tl := tl) m (s1 + 1) (by omega)).2.2
                rw [c3] at this
                exact this rfl
              · exact Or.inl ⟨c2, by omega⟩
          generalize hr : (sp_S t'.1 (nI t'.2) A).2 = r at *
          rw [e37]
          simp only [mz_bn]
          rw [show nI i + 1 = nI (i + 1) from nI_add i 1, show nI s1 + 1 = nI (s1 + 1) from nI_add s1 1]
          by_cases cd : mi_X8_isDone r = 0
          · rw [if_pos cd, if_pos cd]
            by_cases c5 : r = -1005
            · rw [if_pos c5, if_pos c5]
              exact go
            · rw [if_neg c5, if_neg c5]
              obtain ⟨I4, p1, p2, p3⟩ := zc_copyFrom (F := F) (by omega) hPR3.1 hPR3.2.1 (by omega) hAB.1 hCB3
              obtain ⟨J4, q1, q2, q3⟩ := zr_copies (J := J3) (F := F) (r1 := 6) (r2 := 0) (by omega) (by omega) (by omega) (by omega)
              have hJ4 : zz_RS J4 0 AB := zr_like hAB.1 hJB3 (fun j hj => by have := q3 j hj; rw [show 177 * 0 + j = 0 + j by omega] at this; exact this)
              rw [p1, mz_ob, show mi_X9_copies F J3 6 0 = some J4 from q1, mz_ob]
              unfold mi_X8_rememberStop
              simp only [mz_bn]
              generalize hI5 : mc_u (mc_u (mc_u I4 144 8 1) 144 9 (nI i)) 144 10 r = I5
              generalize hJ5 : mc_u (mc_u J4 0 5 (nI i)) 0 6 r = J5
              have o5 : ∀ x, x ≠ 144 → I5 x = I4 x := fun x hx => by rw [← hI5, mz_ux _ hx, mz_ux _ hx, mz_ux _ hx]
              have u5 : ∀ x, x ≠ 0 → J5 x = J4 x := fun x hx => by rw [← hJ5, mz_ux _ hx, mz_ux _ hx]
              have u50 : ∀ j, j ≠ 5 → j ≠ 6 → J5 0 j = J3 0 j := fun j j1 j2 => by rw [← hJ5, mz_u, if_neg (fun q => j2 q.2), mz_u, if_neg (fun q => j1 q.2), q2.1 0 (by omega)]
              have e144 : I5 144 4 = I3 144 4 := by rw [← hI5, mz_u, if_neg (by omega), mz_u, if_neg (by omega), mz_u, if_neg (by omega), p2 144 (by omega)]
              obtain ⟨ns, AH, pt, hPH⟩ := k1
              refine ⟨I5, R3, J5, -1004, rfl, rfl, hPR3, ⟨AB, zc_keep hAB.1 hPR3.1 p3 (fun x x1 x2 => o5 x (by omega)) rfl, zr_keep hAB.1 hJ4 (fun i i1 i2 => by rw [u5 1 (by omega)]), hAB⟩, ⟨ns, AH, pt, ?_⟩, ?_, ?_, Or.inr ⟨?_, ?_, ?_⟩⟩
              · exact hPH.keep (fun x x1 x2 => by rw [o5 x (by omega), p2 x (by omega)]) (by rw [o5 145 (by omega), p2 145 (by omega)]) (fun _ _ => rfl) (u50 1 (by omega) (by omega)) (fun i i1 i2 => by rw [u5 1 (by omega), q2.2 i (by omega)])
              · exact k2.keep hPR3.2.2.2 (fun x x1 x2 => by rw [o5 x (by omega), p2 x (by omega)]) e144 rfl (u50 2 (by omega) (by omega)) (fun i i1 i2 => by rw [u5 1 (by omega), q2.2 i (by omega)])
              · exact k3.keep (by rw [o5 147 (by omega), p2 147 (by omega)]) (by rw [o5 148 (by omega), p2 148 (by omega)]) (u50 4 (by omega) (by omega)) (by rw [u5 2 (by omega), q2.1 2 (by omega)])
              · rw [← hI5, mz_u, if_neg (by omega), mz_u, if_neg (by omega), mz_u, if_pos ⟨rfl, rfl⟩]
              · rw [← hI5, ← hJ5, mz_u, if_neg (by omega), mz_u, if_pos ⟨rfl, rfl⟩, mz_u, if_neg (by omega), mz_u, if_pos ⟨rfl, rfl⟩]
              · rw [← hI5, ← hJ5, mz_u, if_pos ⟨rfl, rfl⟩, mz_u, if_pos ⟨rfl, rfl⟩]
          · rw [if_neg cd, if_neg cd]
            exact go
theorem zo_perform {F : Nat} (hF : 1100 ≤ F) : oq_perform F zz_Rel := by
  intro I R J h
  obtain ⟨hPR, ⟨A, hC, hJ, hok⟩, hX, hK, hT, hS⟩ := h
  obtain ⟨tl, t1, t2, t3, t4⟩ := id hT
  have hTX : zz_TX I (fun k => (J 2 k).toNatClampNeg) tl := by
    refine ⟨t2, fun k hk => ?_, t1, fun k hk => ?_⟩
    · obtain ⟨c, c1, c2, c3⟩ := t4 k hk
      dsimp only
      rw [c3, zi_cl (by omega), c2]
    · obtain ⟨c, c1, c2, c3⟩ := t4 k hk
      dsimp only
      rw [c3, zi_cl (by omega)]
      exact c1
  have hTR : zz_TR J (fun k => (J 2 k).toNatClampNeg) tl := by
    refine ⟨t3, fun k hk => ?_, t1, hTX.2.2.2⟩
    obtain ⟨c, c1, c2, c3⟩ := t4 k hk
    dsimp only
    rw [c3, zi_cl (by omega)]
  generalize (fun k => (J 2 k).toNatClampNeg) = T at hTX hTR
  unfold mi_X8_perform mi_X9_perform
  have hrd := sp_rd_ok (T := T) (tl := tl) 61 0 (Nat.zero_le _)
  obtain ⟨I1, a1, a2, a3⟩ := zc_rdL (T := T) (tl := tl) hF 61 F 0 0 0 (mc_u (mc_u I 149 2 0) 149 3 0) (by omega) (by omega) (hTX.keep (by rw [mz_ux _ (by omega), mz_ux _ (by omega)]) (by rw [mz_ux _ (by omega), mz_ux _ (by omega)])) (by rw [mz_u, if_pos ⟨rfl, rfl⟩]; rfl) (by rw [mz_u, if_neg (by omega), mz_u, if_pos ⟨rfl, rfl⟩]; rfl) (Nat.le_refl _) (Nat.zero_le _)
  have hread : mi_X2_read F I = some (I1, mz_rc (sp_rd T tl 61 0).1) := by
    unfold mi_X2_read
    simp only [mz_bn]
    exact a1
  have oI : ∀ x, x < 149 → I1 x = I x := fun x hx => by rw [a2 x hx, mz_ux _ (by omega), mz_ux _ (by omega)]
  obtain ⟨J1, b1, b2, b3⟩ := zr_ftL (T := T) (tl := tl) hF F 61 0 (mc_u J 0 7 0) (by omega) (by omega) (hTR.keep (by rw [mz_u, if_neg (by omega)]) (mz_ux _ (by omega))) (by rw [mz_u, if_pos ⟨rfl, rfl⟩]; rfl) (Nat.zero_le _)
  have hfault : mi_X9_fault F J = some (J1, mz_rf (sp_rd T tl 61 0).1) := by
    unfold mi_X9_fault
    simp only [mz_bn]
    exact b1
  have oJ : ∀ x, x ≠ 0 → J1 x = J x := fun x hx => by rw [b2 x hx, mz_ux _ hx]
  have oJ0 : ∀ j, j ≠ 7 → j ≠ 8 → J1 0 j = J 0 j := fun j j1 j2 => by rw [b3 j j1 j2, mz_u, if_neg (fun q => j1 q.2)]
  rw [hread, mz_ob2, hfault, mz_ob2]
  have hC1 : zz_CS I1 R 0 A := zc_keep hok.1 hPR.1 hC (fun x x1 x2 => oI x (by omega)) rfl
  have hJ1 : zz_RS J1 0 A := zr_keep hok.1 hJ (fun i i1 i2 => by rw [oJ 1 (by omega)])
  obtain ⟨k1, k2, k3, k4⟩ := za_rest (I1 := I1) (R1 := R) (J1 := J1) hPR hX hK hT hS (fun x x1 x2 => oI x (by omega)) (fun _ _ => rfl) oJ0 (fun i i1 i2 => by rw [oJ 1 (by omega)]) (oJ 2 (by omega))
  cases hf : (sp_rd T tl 61 0).1 with
  | some f =>
    have hf9 := hrd.1 f hf
    have n1 : ¬ nI f = -1 := fun q => by
      have := congrArg Int32.toInt q
      rw [nI_toInt (by omega)] at this
      have h9 : (-1 : Int32).toInt = -1 := by decide
      rw [h9] at this
      omega
    rw [show mz_rc (some f) = nI f from rfl, show mz_rf (some f) = nI f from rfl, if_neg n1, if_neg (mz_enc_no (by omega))]
    exact ⟨I1, R, J1, _, rfl, rfl, hPR, ⟨A, hC1, hJ1, hok⟩, k1, k2, k3, k4⟩
  | none =>
    rw [show mz_rc none = -1 from rfl, show mz_rf none = -1005 from rfl, if_pos rfl, if_pos rfl]
    obtain ⟨c1, c2, c3⟩ := a3 hf
    obtain ⟨I2, d1, d2, d3⟩ := zc_copyFrom (F := F) (by omega) hPR.2.1 hPR.1 (by omega) hok.1 hC1
    obtain ⟨J2, e1, e2, e3⟩ := zr_copies (J := J1) (F := F) (r1 := 0) (r2 := 6) (by omega) (by omega) (by omega) (by omega)
    rw [d1, mz_ob, show mi_X9_copies F J1 0 6 = some J2 from e1, mz_ob]
    simp only [mz_bn]
    have hC2 : zz_CS I2 R 0 A := zc_keep hok.1 hPR.1 hC1 (fun x x1 x2 => d2 x (by omega)) rfl
    have hJ2 : zz_RS (mc_u J2 0 7 0) 0 A := zr_keep hok.1 hJ1 (fun i i1 i2 => by rw [mz_ux _ (by omega), e2.2 i (by omega)])
    have hJ6 : zz_RS (mc_u J2 0 7 0) 1062 A := zr_like hok.1 hJ1 (fun j hj => by rw [mz_ux _ (by omega)]; exact e3 j hj)
    have w0 : ∀ j, j ≠ 7 → mc_u J2 0 7 0 0 j = J1 0 j := fun j hj => by rw [mz_u, if_neg (fun q => hj q.2), e2.1 0 (by omega)]
    obtain ⟨m1, m2, m3, m4⟩ := za_rest (I1 := I2) (R1 := R) (J1 := mc_u J2 0 7 0) hPR k1 k2 k3 k4 (fun x x1 x2 => d2 x (by omega)) (fun _ _ => rfl) (fun j j1 _ => w0 j j1) (fun i i1 i2 => by rw [mz_ux _ (by omega), e2.2 i (by omega)]) (by rw [mz_ux _ (by omega), e2.1 2 (by omega)])
    have hlen := hrd.2.1
    refine zp_L (T := T) (tl := tl) hF hok F (sp_rd T tl 61 0).2 0 0 A I2 R (mc_u J2 0 7 0) (by omega) hPR hC2 hJ2 hok d3 hJ6 m1 m2 m4 ?_ ?_ ?_ (by omega) ?_ (by omega) (fun q t hq => ?_) (Or.inr ⟨Nat.zero_le _, 61, ?_, hrd.2.2 hf⟩)
    · exact hTX.keep (by rw [d2 _ (by omega), oI _ (by omega)]) (by rw [d2 _ (by omega), oI _ (by omega)])
    · exact hTR.keep (by rw [w0 4 (by omega), oJ0 4 (by omega) (by omega)]) (by rw [mz_ux _ (by omega), e2.1 2 (by omega), oJ 2 (by omega)])
    · rw [mz_u, if_pos ⟨rfl, rfl⟩]
      rfl
    · rw [d2 149 (by omega)]
      exact c1
    · rw [d2 150 (by omega), d2 151 (by omega)]
      exact c3 q t hq
    · rw [← hf]
theorem mz_done {F : Nat} (hF : 1100 ≤ F) : mz_ops F zz_Rel := ⟨zo_pay hF, zo_setSlope hF, zo_weight hF, zo_clamp hF, zo_takeOff hF, zo_send hF, zo_pass hF, zo_setWater hF, zo_set hF, zo_type, zo_clearText, zo_perform hF, zo_stopped, zo_undo hF, zo_keep hF, zo_restore hF, zo_bottle, zo_messenger, zo_layer hF, zo_depth, zo_reason hF, zo_shutIn hF, zo_quietIn hF, zo_worst hF, zo_count hF⟩

/-! clamp and take off -/
theorem zn_ix2 (x : Int32) {n : Nat} (hn : n < 2147483648) : x < 0 ∨ nI n ≤ x ∨ ∃ j : Nat, j < n ∧ x = nI j := pk_ix x hn
theorem zn_near {g p : Nat} (hg : g ≤ 999) (hp : p ≤ 999) : (5 ≤ mi_X9_size (nI g - nI p)) ↔ (g + 5 ≤ p ∨ p + 5 ≤ g) := by
  unfold mi_X9_size
  by_cases h : p ≤ g
  · rw [zi_sub h, if_pos (show (0 : Int32) ≤ nI (g - p) from zl_le (a := 0) (by omega) (by omega))]
    rw [show (5 : Int32) ≤ nI (g - p) ↔ 5 ≤ g - p from nI_leI (a := 5) (by omega) (by omega)]
    omega
  · have e : nI g - nI p = -(nI (p - g)) := by rw [← zi_sub (show g ≤ p by omega), Int32.neg_sub]
    have hneg : ¬ (0 : Int32) ≤ -(nI (p - g)) := by
      rw [← e, Int32.le_iff_toInt_le]
      have h0 : (0 : Int32).toInt = 0 := by decide
      rw [h0, Int32.toInt_sub, nI_toInt (by omega), nI_toInt (by omega), Int.bmod_eq_of_le (by omega) (by omega)]
      omega
    rw [e, if_neg hneg, Int32.neg_neg]
    rw [show (5 : Int32) ≤ nI (p - g) ↔ 5 ≤ p - g from nI_leI (a := 5) (by omega) (by omega)]
    omega
def sp_nr (p : Nat) (mb : Nat → Nat) : Nat → Nat → Nat → Option Nat
  | 0, _, r => some r
  | d + 1, i, r => if mb i + 5 ≤ p ∨ p + 5 ≤ mb i then sp_nr p mb d (i + 1) (if p ≤ mb i then r else i + 1) else none
theorem sp_nr_ok {p nb : Nat} {mb : Nat → Nat} (hs : ∀ k j, k < j → j < nb → mb k + 5 ≤ mb j) : ∀ (d i r r1 : Nat), i + d = nb → r ≤ i → (∀ q, q < r → mb q + 5 ≤ p) → (∀ q, r ≤ q → q < i → p + 5 ≤ mb q) → sp_nr p mb d i r = some r1 → r1 ≤ nb ∧ (∀ q, q < r1 → mb q + 5 ≤ p) ∧ (∀ q, r1 ≤ q → q < nb → p + 5 ≤ mb q) := by
  intro d
  induction d with
  | zero =>
    intro i r r1 hid hr h1 h2 h
    cases h
    exact ⟨by omega, h1, fun q q1 q2 => h2 q q1 (by omega)⟩
  | succ d ih =>
    intro i r r1 hid hr h1 h2 h
    unfold sp_nr at h
    by_cases c : mb i + 5 ≤ p ∨ p + 5 ≤ mb i
    · rw [if_pos c] at h
      by_cases c2 : p ≤ mb i
      · rw [if_pos c2] at h
        refine ih (i + 1) r r1 (by omega) (by omega) h1 (fun q q1 q2 => ?_) h
        by_cases hq : q = i
        · subst hq
          omega
        · exact h2 q q1 (by omega)
      · rw [if_neg c2] at h
        refine ih (i + 1) (i + 1) r1 (by omega) (by omega) (fun q hq => ?_) (fun q q1 q2 => by omega) h
        by_cases hqi : q = i
        · subst hqi
          omega
        · have := hs q i (by omega) (by omega)
          omega
    · rw [if_neg c] at h
      cases h
def sp_ins {α : Type} (f : Nat → α) (r : Nat) (v : α) : Nat → α := fun k => if k < r then f k else if k = r then v else f (k - 1)
def sp_del {α : Type} (f : Nat → α) (r : Nat) : Nat → α := fun k => if k < r then f k else f (k + 1)
theorem sp_ins1 {α : Type} {f : Nat → α} {r k : Nat} {v : α} (h : k < r) : sp_ins f r v k = f k := if_pos h
theorem sp_ins2 {α : Type} {f : Nat → α} {r : Nat} {v : α} : sp_ins f r v r = v := by unfold sp_ins; rw [if_neg (Nat.lt_irrefl _), if_pos rfl]
theorem sp_ins3 {α : Type} {f : Nat → α} {r k : Nat} {v : α} (h : r < k) : sp_ins f r v k = f (k - 1) := by unfold sp_ins; rw [if_neg (by omega), if_neg (by omega)]
theorem sp_del1 {α : Type} {f : Nat → α} {r k : Nat} (h : k < r) : sp_del f r k = f k := if_pos h
theorem sp_del2 {α : Type} {f : Nat → α} {r k : Nat} (h : r ≤ k) : sp_del f r k = f (k + 1) := if_neg (by omega)
def sp_fresh (h : Nat) : Nat → Int32 := fun j => if j = 2 then nI h else 0
def sq_clamp (h : Nat) : mz_A → mz_A × Int32
  | (p, sl, lo, nb, nm, mb, ms, sc, bt) => if nb = 10 then ((p, sl, lo, nb, nm, mb, ms, sc, bt), -1003) else match sp_nr p mb nb 0 0 with
    | none => ((p, sl, lo, nb, nm, mb, ms, sc, bt), -1004)
    | some r => ((p, sl, lo, nb + 1, nm, sp_ins mb r p, ms, sc, sp_ins bt r (sp_fresh h)), nI r)
theorem zw_clamp {A : mz_A} {h : Nat} (hh : h ≤ 1) (hW : zz_WF A) : zz_WF (sq_clamp h A).1 := by
  obtain ⟨p, sl, lo, nb, nm, mb, ms, sc, bt⟩ := A
  have hW' := hW
  obtain ⟨⟨w1, w2, w3, w4, w5⟩, x1, x2, x3, x4, x5⟩ := hW
  unfold sq_clamp
  dsimp only
  by_cases c : nb = 10
  · rw [if_pos c]
    exact hW'
  · rw [if_neg c]
    cases hr : sp_nr p mb nb 0 0 with
    | none => exact hW'
    | some r =>
      obtain ⟨r1, r2, r3⟩ := sp_nr_ok x2 nb 0 0 r (by omega) (by omega) (fun q hq => by omega) (fun q q1 q2 => by omega) hr
      dsimp only
      refine ⟨⟨w1, w2, w3, by omega, w5⟩, fun k hk => ?_, fun k j hkj hj => ?_, x3, x4, fun k hk => ?_⟩
      · rcases Nat.lt_trichotomy k r with g | g | g
        · rw [sp_ins1 g]; exact x1 k (by omega)
        · subst g; rw [sp_ins2]; exact w1
        · rw [sp_ins3 g]; exact x1 _ (by omega)
      · rcases Nat.lt_trichotomy k r with g | g | g
        · rw [sp_ins1 g]
          rcases Nat.lt_trichotomy j r with f | f | f
          · rw [sp_ins1 f]; exact x2 k j hkj (by omega)
          · subst f; rw [sp_ins2]; exact r2 k g
          · rw [sp_ins3 f]; exact x2 k _ (by omega) (by omega)
        · subst g
          rw [sp_ins2, sp_ins3 hkj]
          exact r3 _ (by omega) (by omega)
        · rw [sp_ins3 g, sp_ins3 (by omega)]
          exact x2 _ _ (by omega) (by omega)
      · rcases Nat.lt_trichotomy k r with g | g | g
        · rw [sp_ins1 g]; exact x5 k (by omega)
        · subst g
          rw [sp_ins2]
          refine ⟨Or.inl rfl, ?_, Or.inl rfl⟩
          exact zn_boolN hh
        · rw [sp_ins3 g]; exact x5 _ (by omega)
/-- the places of the bottles' row move -/
theorem zc_insRW {R R1 : Nat → Nat → Option Nat} {a nb r : Nat} (hR : zz_RW R a) (hr : r ≤ nb) (hn : nb < 10) (h : ∀ k, k < 10 → R1 (a + 7) k = R (a + 7) (if k < r then k else if k = r then nb else if k ≤ nb then k - 1 else k)) : zz_RW R1 a ∧ ∀ k, k < 10 → zz_bp R1 a k = zz_bp R a (if k < r then k else if k = r then nb else if k ≤ nb then k - 1 else k) := by
  have hbp : ∀ k, k < 10 → zz_bp R1 a k = zz_bp R a (if k < r then k else if k = r then nb else if k ≤ nb then k - 1 else k) := fun k hk => by
    unfold zz_bp
    rw [h k hk]
  refine ⟨fun k hk => ?_, hbp⟩
  rw [hbp k hk, h k hk]
  have hk2 : (if k < r then k else if k = r then nb else if k ≤ nb then k - 1 else k) < 10 := by
    split
    · omega
    · split
      · omega
      · split <;> omega
  refine ⟨(hR _ hk2).1, (hR _ hk2).2.1, (hR _ hk2).2.2.1, fun j hj e => ?_⟩
  rw [hbp j hj] at e
  have hj2 : (if j < r then j else if j = r then nb else if j ≤ nb then j - 1 else j) < 10 := by
    split
    · omega
    · split
      · omega
      · split <;> omega
  have := (hR _ hk2).2.2.2 _ hj2 e
  revert this
  split
  · split
    · omega
    · split
      · omega
      · split <;> omega
  · split
    · split
      · omega
      · split
        · omega
        · split <;> omega
    · split
      · split
        · omega
        · split
          · omega
          · split <;> omega
      · split
        · omega
        · split
          · omega
          · split <;> omega
theorem zc_insL {I : Nat → Nat → Int32} {R : Nat → Nat → Option Nat} {F a nb r : Nat} {h : Int32} {y : Nat} (hr : r ≤ nb) (hn : nb < 10) : ∀ (n i : Nat) (R2 : Nat → Nat → Option Nat), r ≤ i → i ≤ nb → i - r < n → zz_frR a R R2 → (∀ k, k ≤ i ∨ nb < k → R2 (a + 7) k = R (a + 7) k) → (∀ k, i < k → k ≤ nb → R2 (a + 7) k = R (a + 7) (k - 1)) → ∃ R1, mi_X5_insertBottle_L45 F n I R2 a (nI r) h (some y) (nI i) = (mc_ob (mi_X0_clampAt (mc_u I a 4 ((I a 4) + 1)) y ((mc_u I a 4 ((I a 4) + 1)) (a + 1) 0) h) fun I13 => some (I13, R1)) ∧ zz_frR a R R1 ∧ ∀ k, k < 10 → R1 (a + 7) k = if k < r then R (a + 7) k else if k = r then some y else if k ≤ nb then R (a + 7) (k - 1) else R (a + 7) k := by
  intro n
  induction n with
  | zero => intro i _ _ _ h; omega
  | succ n ih =>
    intro i R2 hri hin hlt f1 f2 f3
    show ∃ R1, mi_X5_insertBottle_B45 _ F I R2 _ _ _ _ _ = _ ∧ _
    unfold mi_X5_insertBottle_B45
    by_cases c : i ≤ r
    · rw [if_pos (zl_le c (by omega))]
      have hb1 : ((nI r) < 0 ∨ 10 ≤ (nI r).toNatClampNeg) = False := eq_false (fun q => q.elim (fun q => absurd q (zl_nlt (b := 0) (by omega) (by omega))) (fun q => by rw [zi_cl (by omega)] at q; omega))
      simp only [hb1, if_false]
      simp only [mz_bn, mz_oms, zi_cl (show r < 2147483648 by omega)]
      refine ⟨_, rfl, fun x hx => by rw [mz_ux _ hx]; exact f1 x hx, fun k hk => ?_⟩
      rw [mz_u]
      by_cases hkr : k = r
      · rw [if_pos ⟨rfl, hkr⟩, if_neg (by omega), if_pos hkr]
      · rw [if_neg (fun q => hkr q.2)]
        by_cases hk2 : k < r
        · rw [if_pos hk2]
          exact f2 k (Or.inl (by omega))
        · rw [if_neg hk2, if_neg hkr]
          by_cases hk3 : k ≤ nb
          · rw [if_pos hk3]
            exact f3 k (by omega) hk3
          · rw [if_neg hk3]
            exact f2 k (Or.inr (by omega))
    · obtain ⟨i, rfl⟩ : ∃ j, i = j + 1 := ⟨i - 1, by omega⟩
      rw [if_neg (zl_nle (by omega) (by omega)), show nI (i + 1) - 1 = nI i from pk_sub (a := i + 1) (b := 1) (by omega)]
      simp (disch := omega) only [zi_lit, zi_add, zi_mul, zi_le, zi_lt, zi_cl, Nat.not_lt_zero, zn_nle, zn_yle, zn_nlt, zn_ylt, if_false, if_true, or_false, false_or, mz_bn]
      rw [show nI (i + 1) + -nI 1 = nI i from zi_pre (by omega)]
      refine ih i _ (by omega) (by omega) (by omega) (fun x hx => by rw [mz_ux _ hx]; exact f1 x hx) (fun k hk => ?_) (fun k k1 k2 => ?_)
      · rw [mz_u, if_neg (by omega)]
        exact f2 k (by omega)
      · rw [mz_u]
        by_cases hk : k = i + 1
        · subst hk
          rw [if_pos ⟨rfl, rfl⟩, Nat.add_sub_cancel]
          exact f2 i (Or.inl (by omega))
        · rw [if_neg (fun q => hk q.2)]
          exact f3 k (by omega) k2
theorem zc_ins {I : Nat → Nat → Int32} {R : Nat → Nat → Option Nat} {F a p sl lo nb nm r h : Nat} {mb ms : Nat → Nat} {sc : Nat → Int32} {bt : Nat → Nat → Int32} (hF : 20 ≤ F) (hC : zz_CS I R a (p, sl, lo, nb, nm, mb, ms, sc, bt)) (hR : zz_RW R a) (hn : nb < 10) (hr : r ≤ nb) (hh : h ≤ 1) : ∃ I1 R1, mi_X5_insertBottle F I R a (nI r) (nI h) = some (I1, R1) ∧ zz_fr a I I1 ∧ zz_frR a R R1 ∧ zz_RW R1 a ∧ zz_CS I1 R1 a (p, sl, lo, nb + 1, nm, sp_ins mb r p, ms, sc, sp_ins bt r (sp_fresh h)) := by
  obtain ⟨⟨h0, h1, h2, h3, h4, h5, h6, h7, h8, h9, h10, h11, h12⟩, hw, hm, hb⟩ := hC
  have hy := hR nb hn
  obtain ⟨R1, e1, e2, e3⟩ := zc_insL (I := I) (R := R) (F := F) (a := a) (h := nI h) (y := zz_bp R a nb) hr hn F nb R hr (Nat.le_refl _) (by omega) (fun _ _ => rfl) (fun _ _ => rfl) (fun k k1 k2 => by omega)
  have e3' : ∀ k, k < 10 → R1 (a + 7) k = R (a + 7) (if k < r then k else if k = r then nb else if k ≤ nb then k - 1 else k) := fun k hk => by
    rw [e3 k hk]
    split
    · rfl
    · split
      · exact hy.1.symm
      · split <;> rfl
  obtain ⟨g1, g2⟩ := zc_insRW hR hr hn e3'
  generalize hI2 : mc_u I a 4 (I a 4 + 1) = I2 at e1
  have o2 : ∀ x, x ≠ a → I2 x = I x := fun x hx => by rw [← hI2, mz_ux _ hx]
  have o3 : ∀ j, j ≠ 4 → I2 a j = I a j := fun j hj => by rw [← hI2, mz_u, if_neg (fun q => hj q.2)]
  have o4 : I2 a 4 = nI (nb + 1) := by rw [← hI2, mz_u, if_pos ⟨rfl, rfl⟩, h3]; exact nI_add nb 1
  have hcl : ∃ I3, mi_X0_clampAt I2 (zz_bp R a nb) (I2 (a + 1) 0) (nI h) = some I3 ∧ (∀ x, x ≠ zz_bp R a nb → I3 x = I2 x) ∧ zz_cb (I3 (zz_bp R a nb)) p (sp_fresh h) := by
    unfold mi_X0_clampAt
    simp only [mz_bn, zn_bool (zn_boolN hh), if_false]
    refine ⟨_, rfl, fun x hx => by rw [mz_ux _ hx, mz_ux _ hx, mz_ux _ hx, mz_ux _ hx, mz_ux _ hx], ?_⟩
    refine ⟨?_, ?_, ?_, ?_, ?_, fun q => absurd q (show ¬ (0 : Int32) = 1 by decide)⟩
    · simp [mz_u]
      rw [o2 _ (by omega)]
      exact h0
    · simp [mz_u, sp_fresh]
    · simp [mz_u, sp_fresh]
    · simp [mz_u, sp_fresh]
    · simp [mz_u, sp_fresh]
  obtain ⟨I3, c1, c2, c3⟩ := hcl
  rw [c1, mz_ob] at e1
  have o5 : ∀ x, x ≠ a → x ≠ zz_bp R a nb → I3 x = I x := fun x x1 x2 => by rw [c2 x x2, o2 x x1]
  have o6 : ∀ j, j ≠ 4 → I3 a j = I a j := fun j hj => by rw [c2 a (by omega), o3 j hj]
  refine ⟨I3, R1, ?_, fun x hx => o5 x (by omega) (by omega), e2, g1, ⟨⟨?_, ?_, ?_, ?_, ?_, ?_, ?_, ?_, ?_, ?_, ?_, ?_, ?_⟩, fun k hk => ?_, fun k hk => ?_, fun k hk => ?_⟩⟩
  · unfold mi_X5_insertBottle
    rw [h3]
    simp (disch := omega) only [zi_lit, zi_add, zi_mul, zi_le, zi_lt, zi_cl, Nat.not_lt_zero, zn_nle, zn_yle, zn_nlt, zn_ylt, if_false, if_true, or_false, false_or, mz_bn]
    rw [hy.1]
    exact e1
  · rw [o5 _ (by omega) (by omega)]; exact h0
  · rw [o5 _ (by omega) (by omega)]; exact h1
  · rw [o5 _ (by omega) (by omega)]; exact h2
  · rw [c2 a (by omega)]; exact o4
  · rw [o5 _ (by omega) (by omega)]; exact h4
  · rw [o6 _ (by omega)]; exact h5
  · rw [o6 _ (by omega)]; exact h6
  · rw [o6 _ (by omega)]; exact h7
  · rw [o5 _ (by omega) (by omega)]; exact h8
  · rw [o5 _ (by omega) (by omega)]; exact h9
  · rw [o5 _ (by omega) (by omega)]; exact h10
  · rw [o5 _ (by omega) (by omega)]; exact h11
  · rw [o5 _ (by omega) (by omega)]; exact h12
  · rw [o5 _ (by omega) (by omega), o5 _ (by omega) (by omega)]; exact hw k hk
  · rw [o5 _ (by omega) (by omega)]; exact hm k hk
  · have hkp : ∀ j, j < nb → zz_bp R a j ≠ zz_bp R a nb ∧ zz_bp R a j ≠ a := fun j hj => ⟨fun q => by have := (hR j (by omega)).2.2.2 nb hn q; omega, by have := (hR j (by omega)).2.1; omega⟩
    rw [g2 k (by omega)]
    rcases Nat.lt_trichotomy k r with q | q | q
    · rw [sp_ins1 q, sp_ins1 q, if_pos q, o5 _ (hkp k (by omega)).2 (hkp k (by omega)).1]
      exact hb k (by omega)
    · subst q
      rw [sp_ins2, sp_ins2, if_neg (Nat.lt_irrefl _), if_pos rfl]
      exact c3
    · rw [sp_ins3 q, sp_ins3 q, if_neg (by omega), if_neg (by omega), if_pos (by omega), o5 _ (hkp (k - 1) (by omega)).2 (hkp (k - 1) (by omega)).1]
      exact hb _ (by omega)
theorem zc_clampL {I : Nat → Nat → Int32} {R : Nat → Nat → Option Nat} {F a p sl lo nb nm h : Nat} {mb ms : Nat → Nat} {sc : Nat → Int32} {bt : Nat → Nat → Int32} (hF : 20 ≤ F) (hC : zz_CS I R a (p, sl, lo, nb, nm, mb, ms, sc, bt)) (hR : zz_RW R a) (hn : nb < 10) (hp : p ≤ 999) (hmb : ∀ k, k < nb → mb k ≤ 999) (hh : h ≤ 1) : ∀ (n d i r : Nat), i + d = nb → d < n → r ≤ i → mi_X5_addBottle_L17 F n I R a (nI h) (nI r) (nI i) = (match sp_nr p mb d i r with | none => some (I, R, -1004) | some r1 => mc_ob2 (mi_X5_insertBottle F I R a (nI r1) (nI h)) fun I3 R4 => some (I3, R4, nI r1)) := by
  intro n
  induction n with
  | zero => intro d i r _ h; omega
  | succ n ih =>
    intro d i r hid hdn hri
    show mi_X5_addBottle_B17 _ F I R _ _ _ _ = _
    obtain ⟨⟨h0, -, -, h3, -⟩, -, -, hb⟩ := hC
    unfold mi_X5_addBottle_B17
    rw [h3]
    cases d with
    | zero =>
      rw [if_pos (zl_le (by omega) (by omega))]
      rfl
    | succ d =>
      have hi : i < nb := by omega
      have hg := hmb i hi
      rw [if_neg (zl_nle (by omega) (by omega)), zc_bottleAt hR h3 (by omega) hi, mz_ob, mz_oms, (hb i hi).1, h0, zn_abs]
      unfold sp_nr
      by_cases c : mb i + 5 ≤ p ∨ p + 5 ≤ mb i
      · rw [if_pos ((zn_near hg hp).mpr c), if_pos c]
        unfold mi_X5_addBottle_J61
        rw [mz_oms, (hb i hi).1, h0]
        have e1 : nI i + 1 = nI (i + 1) := nI_add i 1
        by_cases c2 : p ≤ mb i
        · rw [if_pos (zl_le c2 (by omega)), if_pos c2]
          simp only [mz_bn, e1]
          exact ih d (i + 1) r (by omega) (by omega) (by omega)
        · rw [if_neg (zl_nle (by omega) (by omega)), if_neg c2]
          simp only [mz_bn, e1]
          exact ih d (i + 1) (i + 1) (by omega) (by omega) (by omega)
      · rw [if_neg (fun q => c ((zn_near hg hp).mp q)), if_neg c]
theorem zc_clamp {I : Nat → Nat → Int32} {R : Nat → Nat → Option Nat} {a : Nat} {A : mz_A} {F h : Nat} (hF : 20 ≤ F) (hh : h ≤ 1) (hC : zz_CS I R a A) (hR : zz_RW R a) (hW : zz_WF A) : ∃ I1 R1, mi_X5_addBottle F I R a (nI h) = some (I1, R1, (sq_clamp h A).2) ∧ zz_fr a I I1 ∧ zz_frR a R R1 ∧ zz_RW R1 a ∧ zz_CS I1 R1 a (sq_clamp h A).1 := by
  obtain ⟨p, sl, lo, nb, nm, mb, ms, sc, bt⟩ := A
  obtain ⟨⟨w1, w2, w3, w4, w5⟩, x1, x2, x3, x4, x5⟩ := hW
  have h3 := hC.1.2.2.2.1
  unfold sq_clamp
  dsimp only
  unfold mi_X5_addBottle
  rw [h3]
  by_cases c : nb = 10
  · rw [if_pos c, if_neg (show ¬ nI nb < 10 from zl_nlt (b := 10) (by omega) (by omega))]
    exact ⟨I, R, rfl, zz_fr.rfl, fun _ _ => rfl, hR, hC⟩
  · rw [if_neg c, if_pos (show nI nb < 10 from zl_lt (b := 10) (by omega) (by omega))]
    have := zc_clampL (F := F) hF hC hR (by omega) w1 x1 hh F nb 0 0 (by omega) (by omega) (by omega)
    rw [show mi_X5_addBottle_L17 F F I R a (nI h) 0 0 = _ from this]
    cases hr : sp_nr p mb nb 0 0 with
    | none => exact ⟨I, R, rfl, zz_fr.rfl, fun _ _ => rfl, hR, hC⟩
    | some r =>
      obtain ⟨r1, r2, r3⟩ := sp_nr_ok x2 nb 0 0 r (by omega) (by omega) (fun q hq => by omega) (fun q q1 q2 => by omega) hr
      obtain ⟨I1, R1, e1, e2⟩ := zc_ins hF hC hR (by omega) r1 hh
      dsimp only
      rw [e1, mz_ob2]
      exact ⟨I1, R1, rfl, e2⟩


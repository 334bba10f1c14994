/-! hangs: what the law asks of the whole holds -/
def sp_sm (f : Nat → Nat) : Nat → Nat
  | 0 => 0
  | n + 1 => sp_sm f n + f n
theorem sp_sm_cg {f g : Nat → Nat} : ∀ N, (∀ j, j < N → f j = g j) → sp_sm f N = sp_sm g N := by
  intro N
  induction N with
  | zero => intro _; rfl
  | succ n ih =>
    intro h
    show sp_sm f n + f n = sp_sm g n + g n
    rw [ih (fun j hj => h j (by omega)), h n (by omega)]
theorem sp_sm_add (f g : Nat → Nat) : ∀ N, sp_sm (fun j => f j + g j) N = sp_sm f N + sp_sm g N := by
  intro N
  induction N with
  | zero => rfl
  | succ n ih =>
    show sp_sm (fun j => f j + g j) n + (f n + g n) = sp_sm f n + f n + (sp_sm g n + g n)
    omega
theorem sp_sm_zero : ∀ N, sp_sm (fun _ => 0) N = 0 := by
  intro N
  induction N with
  | zero => rfl
  | succ n ih => exact ih
theorem sp_sm_one (l : Nat) : ∀ N, sp_sm (fun j => if l = j then 1 else 0) N = if l < N then 1 else 0 := by
  intro N
  induction N with
  | zero => rfl
  | succ n ih =>
    show sp_sm (fun j => if l = j then 1 else 0) n + (if l = n then 1 else 0) = _
    rw [ih]
    by_cases h1 : l < n
    · rw [if_pos h1, if_neg (by omega), if_pos (by omega)]
    · by_cases h2 : l = n
      · rw [if_neg h1, if_pos h2, if_pos (by omega)]
      · rw [if_neg h1, if_neg h2, if_neg (by omega)]
def sp_dry (p : Nat) (mb : Nat → Nat) (bt : Nat → Nat → Int32) : Nat → Nat
  | 0 => 0
  | n + 1 => sp_dry p mb bt n + (if bt n 1 = 0 then (if p ≤ mb n then 1 else 0) else 0)
theorem zk_sumsh {s N : Nat} {bt : Nat → Nat → Int32} : ∀ n, (∀ k, k < n → (bt k 1 = 0 ∨ bt k 1 = 1) ∧ zk_b s N (bt k)) → sp_sm (fun j => sp_sh bt j n) 10 = sp_ct bt n := by
  intro n
  induction n with
  | zero => intro _; exact sp_sm_zero 10
  | succ n ih =>
    intro h
    have h0 := ih (fun k hk => h k (by omega))
    obtain ⟨h1, h2⟩ := h n (by omega)
    have e : sp_sm (fun j => sp_sh bt j (n + 1)) 10 = sp_sm (fun j => sp_sh bt j n) 10 + sp_sm (fun j => if bt n 1 = 0 then 0 else if bt n 10 = nI j then 1 else 0) 10 := sp_sm_add (fun j => sp_sh bt j n) (fun j => if bt n 1 = 0 then 0 else if bt n 10 = nI j then 1 else 0) 10
    rw [e, h0]
    show _ = sp_ct bt n + (if bt n 1 = 0 then 0 else 1)
    by_cases c : bt n 1 = 0
    · rw [if_pos c, sp_sm_cg (f := fun j => if bt n 1 = 0 then 0 else if bt n 10 = nI j then 1 else 0) (g := fun _ => 0) 10 (fun j _ => if_pos c), sp_sm_zero]
    · have c1 := h1.resolve_left c
      obtain ⟨uu, m, e', l, -, -, -, -, -, -, hl, hl2, -⟩ := (h2.2.2 c1).2.2
      rw [if_neg c, sp_sm_cg (f := fun j => if bt n 1 = 0 then 0 else if bt n 10 = nI j then 1 else 0) (g := fun j => if l = j then 1 else 0) 10 (fun j hj => by
        rw [if_neg c, hl2]
        by_cases q : l = j
        · rw [if_pos (by rw [q]), if_pos q]
        · rw [if_neg (fun z => q ((nI_eq (by omega) (by omega)).mp z)), if_neg q]), sp_sm_one, if_pos (by omega)]
theorem zk_sumop {p c : Nat} {mb : Nat → Nat} {bt : Nat → Nat → Int32} : ∀ n, sp_sm (fun j => sp_op p c mb bt j n) 10 + sp_dry p mb bt n + sp_ct bt n = n := by
  intro n
  induction n with
  | zero => exact sp_sm_zero 10
  | succ n ih =>
    have e : sp_sm (fun j => sp_op p c mb bt j (n + 1)) 10 = sp_sm (fun j => sp_op p c mb bt j n) 10 + sp_sm (fun j => if bt n 1 = 0 then (if p ≤ mb n then 0 else if sp_lay (sp_dep (p - mb n) c) = j then 1 else 0) else 0) 10 := sp_sm_add (fun j => sp_op p c mb bt j n) (fun j => if bt n 1 = 0 then (if p ≤ mb n then 0 else if sp_lay (sp_dep (p - mb n) c) = j then 1 else 0) else 0) 10
    rw [e]
    show _ + (sp_dry p mb bt n + (if bt n 1 = 0 then (if p ≤ mb n then 1 else 0) else 0)) + (sp_ct bt n + (if bt n 1 = 0 then 0 else 1)) = n + 1
    by_cases h : bt n 1 = 0
    · rw [if_pos h, if_pos h]
      by_cases q : p ≤ mb n
      · rw [if_pos q, sp_sm_cg (f := fun j => if bt n 1 = 0 then (if p ≤ mb n then 0 else if sp_lay (sp_dep (p - mb n) c) = j then 1 else 0) else 0) (g := fun _ => 0) 10 (fun j _ => (if_pos h).trans (if_pos q)), sp_sm_zero]
        omega
      · rw [if_neg q, sp_sm_cg (f := fun j => if bt n 1 = 0 then (if p ≤ mb n then 0 else if sp_lay (sp_dep (p - mb n) c) = j then 1 else 0) else 0) (g := fun j => if sp_lay (sp_dep (p - mb n) c) = j then 1 else 0) 10 (fun j _ => (if_pos h).trans (if_neg q)), sp_sm_one, if_pos (by have := sp_lay_le (sp_dep (p - mb n) c); omega)]
        omega
    · rw [if_neg h, if_neg h, sp_sm_cg (f := fun j => if bt n 1 = 0 then (if p ≤ mb n then 0 else if sp_lay (sp_dep (p - mb n) c) = j then 1 else 0) else 0) (g := fun _ => 0) 10 (fun j _ => if_neg h), sp_sm_zero]
      omega
section HNG
variable {I : Nat → Nat → Int32} {R : Nat → Nat → Option Nat} {F ns p sl lo nb nm : Nat} {mb ms : Nat → Nat} {sc : Nat → Int32} {bt : Nat → Nat → Int32} {AH : Nat → mz_A}
theorem zk_hend (hF : 1100 ≤ F) (hR : zl_R I R (p, sl, lo, nb, nm, mb, ms, sc, bt) ns AH) : mi_L_hangs_J230 F I R (nI (sp_sm (fun j => sp_op p (sp_cs sl lo) mb bt j nb) 10)) (nI (sp_sm (fun j => sp_sh bt j nb) 10)) (nI (sp_dry p mb bt nb)) 1 = some 1 := by
  obtain ⟨⟨⟨w1, w2, w3, w4, w5⟩, x1, x2, x3, x4, x5⟩, s, hs, a1, a2, a3, a4, a5⟩ := id hR.ok
  have h1 : sp_sm (fun j => sp_sh bt j nb) 10 = sp_ct bt nb := zk_sumsh nb (fun k hk => ⟨(x5 k hk).1, a3 k hk⟩)
  have h2 := zk_sumop (p := p) (c := sp_cs sl lo) (mb := mb) (bt := bt) nb
  have e7 : mi_X8_count F I R 7 = some (nI (sp_ct bt nb)) := hR.count hF 7 (by omega)
  have e5 : mi_X8_count F I R 5 = some (nI nb) := hR.count hF 5 (by omega)
  have e3 : mi_X8_count F I R 3 = some (nI (sp_cs sl lo)) := hR.count hF 3 (by omega)
  have e2 : mi_X8_count F I R 2 = some (nI sl) := hR.count hF 2 (by omega)
  have e4 : mi_X8_count F I R 4 = some (nI lo) := hR.count hF 4 (by omega)
  have last : ∀ x : Int32, x = nI (sp_cs sl lo) → mi_L_hangs_J307 F I R x (nI (sp_cs sl lo)) = some 1 := by
    intro x hx
    unfold mi_L_hangs_J307
    rw [if_pos hx.symm, hR.bottles hF, mz_ob, if_neg zk_10]
  unfold mi_L_hangs_J230
  rw [if_neg zk_10, e7, mz_ob, h1, if_pos rfl, e5, mz_ob, mz_ob, if_pos (by rw [zi_sub (by omega), nI_add]; exact congrArg nI (by omega)), e3, mz_ob, e2, mz_ob, e4, mz_ob]
  have e : nI sl + 2 * nI lo = nI (sl + 2 * lo) := by
    rw [show (2 : Int32) * nI lo = nI (2 * lo) from zi_mul 2 lo, nI_add]
  rw [e]
  by_cases c : sl + 2 * lo ≤ 6
  · rw [if_pos (show nI (sl + 2 * lo) ≤ 6 from zl_le (b := 6) c (by omega)), mz_ob, mz_ob, e]
    exact last _ (by rw [show sp_cs sl lo = sl + 2 * lo from if_pos c])
  · rw [if_neg (show ¬ nI (sl + 2 * lo) ≤ 6 from zl_nle (b := 6) (by omega) (by omega))]
    exact last _ (by rw [show sp_cs sl lo = 6 from if_neg c]; rfl)
theorem zk_h129 (hF : 1100 ≤ F) (hR : zl_R I R (p, sl, lo, nb, nm, mb, ms, sc, bt) ns AH) : ∀ (n d i : Nat), i + d = nb → d < n → mi_L_hangs_L129 F n I R (nI nm) (nI (sp_sm (fun j => sp_op p (sp_cs sl lo) mb bt j nb) 10)) (nI (sp_sm (fun j => sp_sh bt j nb) 10)) (nI (sp_dry p mb bt i)) (nI i) = some 1 := by
  obtain ⟨⟨⟨w1, w2, w3, w4, w5⟩, x1, x2, x3, x4, x5⟩, s, hs, a1, a2, a3, a4, a5⟩ := id hR.ok
  intro n
  induction n with
  | zero => intro d i _ q; omega
  | succ n ih =>
    intro d i hid hdn
    show mi_L_hangs_B129 _ F I R _ _ _ _ _ = _
    unfold mi_L_hangs_B129
    rw [show mi_X8_count F I R 5 = some (nI nb) from hR.count hF 5 (by omega), mz_ob]
    cases d with
    | zero =>
      have : i = nb := by omega
      subst this
      rw [if_pos (zl_le (by omega) (by omega)), show mi_X8_count F I R 10 = some (sc 6) from hR.count hF 10 (by omega), mz_ob, show mi_X8_count F I R 11 = some (sc 7) from hR.count hF 11 (by omega), mz_ob, show mi_X8_count F I R 12 = some (sc 8) from hR.count hF 12 (by omega), mz_ob, show mi_X8_count F I R 13 = some (sc 9) from hR.count hF 13 (by omega), mz_ob, show mi_X8_count F I R 14 = some (sc 10) from hR.count hF 14 (by omega), mz_ob, if_pos a5, show mi_X8_messenger I (nI nm) 0 = some (-1005) from zk_mesNo (A := (p, sl, lo, i, nm, mb, ms, sc, bt)) hR.2.1 hR.ok.1, mz_ob, if_pos rfl]
      exact zk_hend hF hR
    | succ d =>
      have hi : i < nb := by omega
      have bb : ∀ j, j ≤ 13 → mi_X8_bottle I R (nI i) (nI j) = some (sv_bot (p, sl, lo, nb, nm, mb, ms, sc, bt) i j) := fun j hj => hR.bottle hi hj
      have ihh := ih d (i + 1) (by omega) (by omega)
      rw [show sp_dry p mb bt (i + 1) = sp_dry p mb bt i + (if bt i 1 = 0 then (if p ≤ mb i then 1 else 0) else 0) from rfl] at ihh
      rw [if_neg (zl_nle hi (by omega)), show mi_X8_bottle I R (nI i) 3 = some (bt i 1) from bb 3 (by omega), mz_ob]
      simp only [mz_bn]
      rw [show nI i + 1 = nI (i + 1) from nI_add i 1]
      by_cases co : bt i 1 = 0
      · rw [if_pos co] at ihh
        rw [if_pos co, show mi_X8_bottle I R (nI i) 1 = some (nI (p - mb i)) from bb 1 (by omega), mz_ob]
        by_cases cw : p ≤ mb i
        · rw [if_pos cw] at ihh
          rw [if_pos (show nI (p - mb i) = 0 by rw [show p - mb i = 0 by omega]; rfl), show nI (sp_dry p mb bt i) + 1 = nI (sp_dry p mb bt i + 1) from nI_add _ 1]
          exact ihh
        · rw [if_neg cw] at ihh
          rw [if_neg (show ¬ nI (p - mb i) = 0 from fun q => by have := (nI_eq (b := 0) (by omega) (by omega)).mp q; omega), Int32.add_zero]
          exact ihh
      · rw [if_neg co] at ihh
        rw [if_neg co, Int32.add_zero]
        exact ihh
theorem zk_h90 (hF : 1100 ≤ F) (hR : zl_R I R (p, sl, lo, nb, nm, mb, ms, sc, bt) ns AH) : ∀ (n d i : Nat), i + d = 10 → d < n → mi_L_hangs_L90 F n I R (nI nm) (nI (sp_sm (fun j => sp_op p (sp_cs sl lo) mb bt j nb) i)) (nI (sp_sm (fun j => sp_sh bt j nb) i)) (nI i) = some 1 := by
  have hn : nb ≤ 10 := hR.ok.1.1.2.2.2.1
  intro n
  induction n with
  | zero => intro d i _ q; omega
  | succ n ih =>
    intro d i hid hdn
    show mi_L_hangs_B90 _ F I R _ _ _ _ = _
    unfold mi_L_hangs_B90
    cases d with
    | zero =>
      have : i = 10 := by omega
      subst this
      rw [if_pos (by decide)]
      exact zk_h129 hF hR F nb 0 (by omega) (by omega)
    | succ d =>
      rw [if_neg (show ¬ 10 ≤ nI i from zl_nle (a := 10) (by omega) (by omega)), show mi_X8_layer F I R (nI i) 2 = some (nI (sp_op p (sp_cs sl lo) mb bt i nb)) from hR.layer hF (j := i) (q := 2) (by omega) (by omega), mz_ob, show mi_X8_layer F I R (nI i) 3 = some (nI (sp_sh bt i nb)) from hR.layer hF (j := i) (q := 3) (by omega) (by omega)]
      simp only [mz_bn, mz_ob]
      rw [nI_add, nI_add, show nI i + 1 = nI (i + 1) from nI_add i 1]
      exact ih d (i + 1) (by omega) (by omega)
theorem zk_h9 (hF : 1100 ≤ F) (hR : zl_R I R (p, sl, lo, nb, nm, mb, ms, sc, bt) ns AH) : ∀ (n d i : Nat), i + d = nm → d < n → mi_L_hangs_L9 F n I R (nI nm) (nI i) = some 1 := by
  obtain ⟨⟨⟨w1, w2, w3, w4, w5⟩, x1, x2, x3, x4, x5⟩, s, hs, a1, a2, a3, a4, a5⟩ := id hR.ok
  intro n
  induction n with
  | zero => intro d i _ q; omega
  | succ n ih =>
    intro d i hid hdn
    show mi_L_hangs_B9 _ F I R _ _ = _
    unfold mi_L_hangs_B9
    cases d with
    | zero =>
      rw [if_pos (zl_le (by omega) (by omega))]
      exact zk_h90 hF hR F 10 0 rfl (by omega)
    | succ d =>
      have hi : i < nm := by omega
      obtain ⟨m0, m1⟩ := zk_mes hR.2.1 hR.ok.1 hi
      have hms := (x3 i hi).2
      have e1 : mi_X8_count F I R 1 = some (nI p) := hR.count hF 1 (by omega)
      have e3 : mi_X8_count F I R 3 = some (nI (sp_cs sl lo)) := hR.count hF 3 (by omega)
      have last : mi_L_hangs_J50 (mi_L_hangs_L9 F n) F I R (nI nm) (nI i) (nI (ms i)) = some 1 := by
        unfold mi_L_hangs_J50
        rw [show mi_X8_messenger I (nI i) 1 = _ from m1, mz_ob, e1, mz_ob, e3, mz_ob, zi_sub hms, zk_depth I (by omega) (sp_cs_le _ _), mz_ob, if_pos rfl]
        simp only [mz_bn]
        rw [show nI i + 1 = nI (i + 1) from nI_add i 1]
        exact ih d (i + 1) (by omega) (by omega)
      rw [if_neg (zl_nle hi (by omega)), show mi_X8_messenger I (nI i) 0 = _ from m0, mz_ob, if_neg (show ¬ nI (ms i) < 0 from zl_nlt (b := 0) (by omega) (by omega)), e1, mz_ob, if_neg (zl_nlt hms (by omega))]
      by_cases i0 : i = 0
      · rw [if_pos (show nI i ≤ 0 from zl_le (b := 0) (by omega) (by omega))]
        exact last
      · have hb := x4 (i - 1) i (by omega) hi
        obtain ⟨m2, -⟩ := zk_mes hR.2.1 hR.ok.1 (show i - 1 < nm by omega)
        rw [if_neg (show ¬ nI i ≤ 0 from zl_nle (b := 0) (by omega) (by omega)), show nI i - 1 = nI (i - 1) from pk_sub (b := 1) (by omega), show mi_X8_messenger I (nI (i - 1)) 0 = _ from m2, mz_ob, if_neg (zl_nlt hb (by omega))]
        exact last
end HNG
theorem zl_R.hangs {I : Nat → Nat → Int32} {R : Nat → Nat → Option Nat} {A : mz_A} {F ns : Nat} {AH : Nat → mz_A} (h : zl_R I R A ns AH) (hF : 1100 ≤ F) : mi_L_hangs F I R = some 1 := by
  obtain ⟨p, sl, lo, nb, nm, mb, ms, sc, bt⟩ := A
  have hn : nm ≤ 12 := h.ok.1.1.2.2.2.2
  unfold mi_L_hangs
  rw [show mi_X8_count F I R 9 = some (nI nm) from h.count hF 9 (by omega), mz_ob]
  exact zk_h9 hF h F nm 0 (by omega) (by omega)

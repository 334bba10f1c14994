/-! print: a function of the state -/
def sp_pr (f : Nat → Int32) : Nat → Nat → Int64 → Int64
  | 0, _, h => h
  | d + 1, i, h => sp_pr f d (i + 1) ((31 : Int64) * h + (f i).toInt64)
def sv_pr (A : mz_A) : Int64 := sp_pr (fun k => sv_lay A (k / 2) (k % 2)) 20 0 (sp_pr (fun k => nI (mz_ms A k)) (mz_nm A) 0 (sp_pr (fun k => sv_bot A (k / 14) (k % 14)) (14 * mz_nb A) 0 (sp_pr (fun w => sv_cnt 0 A w) 17 0 13)))
theorem sv_cnt_ns {A : mz_A} {ns w : Nat} (h : w < 17) : sv_cnt ns A w = sv_cnt 0 A w := by
  obtain ⟨p, sl, lo, nb, nm, mb, ms, sc, bt⟩ := A
  rcases (show w = 0 ∨ w = 1 ∨ w = 2 ∨ w = 3 ∨ w = 4 ∨ w = 5 ∨ w = 6 ∨ w = 7 ∨ w = 8 ∨ w = 9 ∨ w = 10 ∨ w = 11 ∨ w = 12 ∨ w = 13 ∨ w = 14 ∨ w = 15 ∨ w = 16 by omega) with rfl | rfl | rfl | rfl | rfl | rfl | rfl | rfl | rfl | rfl | rfl | rfl | rfl | rfl | rfl | rfl | rfl <;> rfl
theorem sv_c5 (ns : Nat) (A : mz_A) : sv_cnt ns A 5 = nI (mz_nb A) := rfl
theorem sv_c9 (ns : Nat) (A : mz_A) : sv_cnt ns A 9 = nI (mz_nm A) := rfl
section PRN
variable {I : Nat → Nat → Int32} {R : Nat → Nat → Option Nat} {A : mz_A} {F ns : Nat}
theorem zk_pr4 (hF : 20 ≤ F) (hC : zz_CS I R 0 A) (hR : zz_RW R 0) (hW : zz_WF A) : ∀ (n d i : Nat) (h : Int64), i + d = 20 → d < n → mi_L_print_L105 F n I R h (nI i) = some (sp_pr (fun k => sv_lay A (k / 2) (k % 2)) d i h) := by
  intro n
  induction n with
  | zero => intro d i h _ q; omega
  | succ n ih =>
    intro d i h hid hdn
    show mi_L_print_B105 _ F I R h (nI i) = _
    unfold mi_L_print_B105
    cases d with
    | zero =>
      rw [if_pos (show 20 ≤ nI i from zl_le (a := 20) (by omega) (by omega))]
      rfl
    | succ d =>
      have e1 : nI i / 2 = nI (i / 2) := zi_div (d := 2) (by omega) (by decide) (by decide)
      have e2 : nI i - nI (i / 2) * 2 = nI (i % 2) := by
        rw [show nI (i / 2) * 2 = nI (i / 2 * 2) from zi_mul _ 2, zi_sub (by omega)]
        exact congrArg nI (by omega)
      rw [if_neg (show ¬ 20 ≤ nI i from zl_nle (a := 20) (by omega) (by omega)), e1, e2, zk_layer hF hC hR hW (by omega) (by omega), mz_ob]
      simp only [mz_bn]
      rw [show nI i + 1 = nI (i + 1) from nI_add i 1]
      exact ih d (i + 1) _ (by omega) (by omega)
theorem zk_pr3 (hF : 30 ≤ F) (hC : zz_CS I R 0 A) (hR : zz_RW R 0) (hW : zz_WF A) (hst : I 145 1 = nI ns) : ∀ (n d i : Nat) (h : Int64), i + d = mz_nm A → d < n → mi_L_print_L73 F n I R h (nI i) = some (sp_pr (fun k => sv_lay A (k / 2) (k % 2)) 20 0 (sp_pr (fun k => nI (mz_ms A k)) d i h)) := by
  have hm : mz_nm A ≤ 12 := by
    obtain ⟨p, sl, lo, nb, nm, mb, ms, sc, bt⟩ := A
    exact hW.1.2.2.2.2
  intro n
  induction n with
  | zero => intro d i h _ q; omega
  | succ n ih =>
    intro d i h hid hdn
    show mi_L_print_B73 _ F I R h (nI i) = _
    unfold mi_L_print_B73
    rw [show mi_X8_count F I R 9 = _ from zk_count (w := 9) (by omega) hC hR hW hst (by omega), mz_ob, sv_c9]
    cases d with
    | zero =>
      rw [if_pos (zl_le (by omega) (by omega))]
      exact zk_pr4 (by omega) hC hR hW F 20 0 h rfl (by omega)
    | succ d =>
      have e := (show mi_X8_messenger I (nI i) (nI 0) = some (nI (mz_ms A i)) by
        obtain ⟨p, sl, lo, nb, nm, mb, ms, sc, bt⟩ := A
        exact (zk_mes hC hW (show i < nm from (by have h2 : i + (d + 1) = nm := hid; omega))).1)
      rw [if_neg (zl_nle (by omega) (by omega)), show mi_X8_messenger I (nI i) 0 = _ from e, mz_ob]
      simp only [mz_bn]
      rw [show nI i + 1 = nI (i + 1) from nI_add i 1]
      exact ih d (i + 1) _ (by omega) (by omega)
theorem zk_pr2 (hF : 200 ≤ F) (hC : zz_CS I R 0 A) (hR : zz_RW R 0) (hW : zz_WF A) (hst : I 145 1 = nI ns) : ∀ (n d i : Nat) (h : Int64), i + d = 14 * mz_nb A → d < n → mi_L_print_L33 F n I R h (nI i) = some (sp_pr (fun k => sv_lay A (k / 2) (k % 2)) 20 0 (sp_pr (fun k => nI (mz_ms A k)) (mz_nm A) 0 (sp_pr (fun k => sv_bot A (k / 14) (k % 14)) d i h))) := by
  have hm : mz_nm A ≤ 12 ∧ mz_nb A ≤ 10 := by
    obtain ⟨p, sl, lo, nb, nm, mb, ms, sc, bt⟩ := A
    exact ⟨hW.1.2.2.2.2, hW.1.2.2.2.1⟩
  intro n
  induction n with
  | zero => intro d i h _ q; omega
  | succ n ih =>
    intro d i h hid hdn
    show mi_L_print_B33 _ F I R h (nI i) = _
    unfold mi_L_print_B33
    rw [show mi_X8_count F I R 5 = _ from zk_count (w := 5) (by omega) hC hR hW hst (by omega), mz_ob, sv_c5, show (14 : Int32) * nI (mz_nb A) = nI (14 * mz_nb A) from zi_mul 14 _]
    cases d with
    | zero =>
      rw [if_pos (zl_le (by omega) (by omega))]
      exact zk_pr3 (by omega) hC hR hW hst F (mz_nm A) 0 h (by omega) (by omega)
    | succ d =>
      have e1 : nI i / 14 = nI (i / 14) := zi_div (d := 14) (by omega) (by decide) (by decide)
      have e2 : nI i - nI (i / 14) * 14 = nI (i % 14) := by
        rw [show nI (i / 14) * 14 = nI (i / 14 * 14) from zi_mul _ 14, zi_sub (by omega)]
        exact congrArg nI (by omega)
      rw [if_neg (zl_nle (by omega) (by omega)), e1, e2, zk_bottle hC hR hW (by omega) (by omega), mz_ob]
      simp only [mz_bn]
      rw [show nI i + 1 = nI (i + 1) from nI_add i 1]
      exact ih d (i + 1) _ (by omega) (by omega)
theorem zk_pr1 (hF : 200 ≤ F) (hC : zz_CS I R 0 A) (hR : zz_RW R 0) (hW : zz_WF A) (hst : I 145 1 = nI ns) : ∀ (n d i : Nat) (h : Int64), i + d = 17 → d < n → mi_L_print_L6 F n I R h (nI i) = some (sp_pr (fun k => sv_lay A (k / 2) (k % 2)) 20 0 (sp_pr (fun k => nI (mz_ms A k)) (mz_nm A) 0 (sp_pr (fun k => sv_bot A (k / 14) (k % 14)) (14 * mz_nb A) 0 (sp_pr (fun w => sv_cnt 0 A w) d i h)))) := by
  have hm : mz_nb A ≤ 10 := by
    obtain ⟨p, sl, lo, nb, nm, mb, ms, sc, bt⟩ := A
    exact hW.1.2.2.2.1
  intro n
  induction n with
  | zero => intro d i h _ q; omega
  | succ n ih =>
    intro d i h hid hdn
    show mi_L_print_B6 _ F I R h (nI i) = _
    unfold mi_L_print_B6
    cases d with
    | zero =>
      rw [if_pos (show 17 ≤ nI i from zl_le (a := 17) (by omega) (by omega))]
      exact zk_pr2 hF hC hR hW hst F (14 * mz_nb A) 0 h (by omega) (by omega)
    | succ d =>
      rw [if_neg (show ¬ 17 ≤ nI i from zl_nle (a := 17) (by omega) (by omega)), zk_count (w := i) (by omega) hC hR hW hst (by omega), mz_ob, sv_cnt_ns (by omega)]
      simp only [mz_bn]
      rw [show nI i + 1 = nI (i + 1) from nI_add i 1]
      exact ih d (i + 1) _ (by omega) (by omega)
theorem zk_print (hF : 200 ≤ F) (hC : zz_CS I R 0 A) (hR : zz_RW R 0) (hW : zz_WF A) (hst : I 145 1 = nI ns) : mi_L_print F I R = some (sv_pr A) := by
  unfold mi_L_print
  simp only [mz_bn]
  exact zk_pr1 hF hC hR hW hst F 17 0 13 rfl (by omega)
end PRN

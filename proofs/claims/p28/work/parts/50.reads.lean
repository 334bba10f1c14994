/-! what is told, as functions of a state -/
def sp_wt (p : Nat) (mb : Nat → Nat) : Nat → Nat
  | 0 => 0
  | n + 1 => sp_wt p mb n + (if p ≤ mb n then 0 else 1)
def sp_db (c : Int32) (bt : Nat → Nat → Int32) : Nat → Nat
  | 0 => 0
  | n + 1 => sp_db c bt n + (if bt n 1 = 0 then 0 else if sp_df (bt n) ≤ c then 0 else 1)
def sp_op (p c : Nat) (mb : Nat → Nat) (bt : Nat → Nat → Int32) (ly : Nat) : Nat → Nat
  | 0 => 0
  | n + 1 => sp_op p c mb bt ly n + (if bt n 1 = 0 then (if p ≤ mb n then 0 else if sp_lay (sp_dep (p - mb n) c) = ly then 1 else 0) else 0)
def sp_sh (bt : Nat → Nat → Int32) (ly : Nat) : Nat → Nat
  | 0 => 0
  | n + 1 => sp_sh bt ly n + (if bt n 1 = 0 then 0 else if bt n 10 = nI ly then 1 else 0)
def sp_wo (bt : Nat → Nat → Int32) : Nat → Nat → Int32 → Int32 → Int32
  | 0, _, u, _ => u
  | d + 1, i, u, v => if bt i 1 = 0 then sp_wo bt d (i + 1) u v else if sp_df (bt i) ≤ v then sp_wo bt d (i + 1) u v else sp_wo bt d (i + 1) (nI i) (sp_df (bt i))
def sv_cnt (ns : Nat) : mz_A → Nat → Int32
  | (p, sl, lo, nb, nm, mb, _, sc, bt), w => match w with
    | 0 => sc 0
    | 1 => nI p
    | 2 => nI sl
    | 3 => nI (sp_cs sl lo)
    | 4 => nI lo
    | 5 => nI nb
    | 6 => nI (sp_wt p mb nb)
    | 7 => nI (sp_ct bt nb)
    | 8 => nI (sp_db (sc 11) bt nb)
    | 9 => nI nm
    | 10 => sc 6
    | 11 => sc 7
    | 12 => sc 8
    | 13 => sc 9
    | 14 => sc 10
    | 15 => sc 11
    | 16 => sc 12
    | _ => nI ns
def sv_bot : mz_A → Nat → Nat → Int32
  | (p, sl, lo, _, _, mb, _, sc, bt), k, j => match j with
    | 0 => nI (mb k)
    | 1 => nI (p - mb k)
    | 2 => nI (sp_dep (p - mb k) (sp_cs sl lo))
    | 3 => bt k 1
    | 4 => bt k 2
    | 5 => bt k 3
    | 6 => if bt k 1 = 0 then -1005 else bt k 5
    | 7 => if bt k 1 = 0 then -1005 else bt k 6
    | 8 => if bt k 1 = 0 then -1005 else bt k 7
    | 9 => if bt k 1 = 0 then -1005 else bt k 8
    | 10 => if bt k 1 = 0 then -1005 else 10 * (bt k 7 - bt k 6)
    | 11 => if bt k 1 = 0 then -1005 else bt k 9
    | 12 => if bt k 1 = 0 then -1005 else if sp_df (bt k) ≤ sc 11 then 0 else 1
    | _ => bt k 4
def sv_lay : mz_A → Nat → Nat → Int32
  | (p, sl, lo, nb, _, mb, _, sc, bt), j, q => match q with
    | 0 => sc (13 + 2 * j)
    | 1 => sc (14 + 2 * j)
    | 2 => nI (sp_op p (sp_cs sl lo) mb bt j nb)
    | _ => nI (sp_sh bt j nb)
def sv_wor : mz_A → Int32
  | (_, _, _, nb, _, _, _, _, bt) => sp_wo bt nb 0 (-1005) (-1)
theorem zk_depth (I : Nat → Nat → Int32) {m c : Nat} (hm : m ≤ 999) (hc : c ≤ 6) : mi_X8_depth I (nI m) (nI c) = some (nI (sp_dep m c)) := by
  unfold mi_X8_depth
  rw [zc_depthAt hm hc]
  simp (disch := omega) only [zi_lit, zi_add, zi_mul, zi_le, zi_lt, zi_cl, Nat.not_lt_zero, zn_nle, zn_yle, zn_nlt, zn_ylt, if_false, if_true, or_false, false_or, mz_bn]
  rfl
theorem zk_wtL {I : Nat → Nat → Int32} {R : Nat → Nat → Option Nat} {F p sl lo nb nm : Nat} {mb ms : Nat → Nat} {sc : Nat → Int32} {bt : Nat → Nat → Int32} (hC : zz_CS I R 0 (p, sl, lo, nb, nm, mb, ms, sc, bt)) (hR : zz_RW R 0) (hW : zz_WF (p, sl, lo, nb, nm, mb, ms, sc, bt)) : ∀ (n d i : Nat), i + d = nb → d < n → mi_X5_bottlesInWater_L4 F n I R 0 (nI (sp_wt p mb i)) (nI i) = some (nI (sp_wt p mb nb)) := by
  obtain ⟨⟨w1, w2, w3, w4, w5⟩, x1, x2, x3, x4, x5⟩ := hW
  obtain ⟨⟨h0, h1, h2, h3, h4, h5, h6, -⟩, -, -, hb⟩ := hC
  intro n
  induction n with
  | zero => intro d i _ h; omega
  | succ n ih =>
    intro d i hid hdn
    show mi_X5_bottlesInWater_B4 _ F I R _ _ _ = _
    unfold mi_X5_bottlesInWater_B4
    rw [h3]
    cases d with
    | zero =>
      have : i = nb := by omega
      subst this
      rw [if_pos (zl_le (by omega) (by omega))]
    | succ d =>
      have hi : i < nb := by omega
      have hmk := x1 i hi
      have e1 : nI i + 1 = nI (i + 1) := nI_add i 1
      have e2 : nI (sp_wt p mb i) + 1 = nI (sp_wt p mb i + 1) := nI_add _ 1
      have ihh := ih d (i + 1) (by omega) (by omega)
      rw [if_neg (zl_nle hi (by omega)), zc_bottleAt hR h3 w4 hi, mz_ob, mz_oms, (hb i hi).1, zc_inw h0 w1 hmk]
      simp only [mz_bn, e1, e2]
      rw [show sp_wt p mb (i + 1) = sp_wt p mb i + (if p ≤ mb i then 0 else 1) from rfl] at ihh
      by_cases cw : p ≤ mb i
      · rw [if_pos cw] at ihh
        rw [if_pos cw, if_pos rfl]
        exact ihh
      · rw [if_neg cw] at ihh
        rw [if_neg cw, if_neg (by decide)]
        exact ihh
theorem zk_dbL {I : Nat → Nat → Int32} {R : Nat → Nat → Option Nat} {F p sl lo nb nm : Nat} {mb ms : Nat → Nat} {sc : Nat → Int32} {bt : Nat → Nat → Int32} (hC : zz_CS I R 0 (p, sl, lo, nb, nm, mb, ms, sc, bt)) (hR : zz_RW R 0) (hW : zz_WF (p, sl, lo, nb, nm, mb, ms, sc, bt)) : ∀ (n d i : Nat), i + d = nb → d < n → mi_X5_doubtfulBottles_L4 F n I R 0 (nI (sp_db (sc 11) bt i)) (nI i) = some (nI (sp_db (sc 11) bt nb)) := by
  obtain ⟨⟨w1, w2, w3, w4, w5⟩, x1, x2, x3, x4, x5⟩ := hW
  obtain ⟨⟨h0, h1, h2, h3, h4, h5, h6, -⟩, -, -, hb⟩ := hC
  intro n
  induction n with
  | zero => intro d i _ h; omega
  | succ n ih =>
    intro d i hid hdn
    show mi_X5_doubtfulBottles_B4 _ F I R _ _ _ = _
    unfold mi_X5_doubtfulBottles_B4
    rw [h3]
    cases d with
    | zero =>
      have : i = nb := by omega
      subst this
      rw [if_pos (zl_le (by omega) (by omega))]
    | succ d =>
      have hi : i < nb := by omega
      have e1 : nI i + 1 = nI (i + 1) := nI_add i 1
      have e2 : nI (sp_db (sc 11) bt i) + 1 = nI (sp_db (sc 11) bt i + 1) := nI_add _ 1
      have ihh := ih d (i + 1) (by omega) (by omega)
      rw [if_neg (zl_nle hi (by omega)), zc_bottleAt hR h3 w4 hi, mz_ob, mz_oms]
      unfold mi_X5_isDoubtful
      rw [(hb i hi).2.2.2.1, h6]
      simp only [mz_bn, e1, e2]
      rw [show sp_db (sc 11) bt (i + 1) = sp_db (sc 11) bt i + (if bt i 1 = 0 then 0 else if sp_df (bt i) ≤ sc 11 then 0 else 1) from rfl] at ihh
      by_cases ct : bt i 1 = 0
      · rw [if_pos ct] at ihh
        rw [if_pos ct, if_pos rfl]
        exact ihh
      · have ct1 := ((x5 i hi).1).resolve_left ct
        rw [if_neg ct] at ihh
        rw [if_neg ct, zc_diff (hb i hi) ct1]
        by_cases cd : sp_df (bt i) ≤ sc 11
        · rw [if_pos cd] at ihh
          rw [if_pos cd, if_pos rfl]
          exact ihh
        · rw [if_neg cd] at ihh
          rw [if_neg cd, if_neg (by decide)]
          exact ihh
theorem zk_opL {I : Nat → Nat → Int32} {R : Nat → Nat → Option Nat} {F ly p sl lo nb nm : Nat} {mb ms : Nat → Nat} {sc : Nat → Int32} {bt : Nat → Nat → Int32} (hC : zz_CS I R 0 (p, sl, lo, nb, nm, mb, ms, sc, bt)) (hR : zz_RW R 0) (hW : zz_WF (p, sl, lo, nb, nm, mb, ms, sc, bt)) (hly : ly ≤ 9) : ∀ (n d i : Nat), i + d = nb → d < n → mi_X5_openInLayer_L4 F n I R 0 (nI ly) (nI (sp_op p (sp_cs sl lo) mb bt ly i)) (nI i) = some (nI (sp_op p (sp_cs sl lo) mb bt ly nb)) := by
  obtain ⟨⟨w1, w2, w3, w4, w5⟩, x1, x2, x3, x4, x5⟩ := hW
  obtain ⟨⟨h0, h1, h2, h3, h4, h5, h6, -⟩, -, -, hb⟩ := hC
  intro n
  induction n with
  | zero => intro d i _ h; omega
  | succ n ih =>
    intro d i hid hdn
    show mi_X5_openInLayer_B4 _ F I R _ _ _ _ = _
    unfold mi_X5_openInLayer_B4
    rw [h3]
    cases d with
    | zero =>
      have : i = nb := by omega
      subst this
      rw [if_pos (zl_le (by omega) (by omega))]
    | succ d =>
      have hi : i < nb := by omega
      have hmk := x1 i hi
      have e1 : nI i + 1 = nI (i + 1) := nI_add i 1
      have e2 : nI (sp_op p (sp_cs sl lo) mb bt ly i) + 1 = nI (sp_op p (sp_cs sl lo) mb bt ly i + 1) := nI_add _ 1
      have ihh := ih d (i + 1) (by omega) (by omega)
      have hdl := sp_dep_le (m := p - mb i) (c := sp_cs sl lo) (by omega)
      have hll := sp_lay_le (sp_dep (p - mb i) (sp_cs sl lo))
      rw [if_neg (zl_nle hi (by omega)), zc_bottleAt hR h3 w4 hi, mz_ob, mz_oms, (hb i hi).2.2.2.1, (hb i hi).1, zc_inw h0 w1 hmk, zc_depthOf h0 h1 h2 w2 w3 w1 hmk, mz_ob, zc_layerAt (by omega)]
      simp only [mz_bn, e1, e2]
      rw [show sp_op p (sp_cs sl lo) mb bt ly (i + 1) = sp_op p (sp_cs sl lo) mb bt ly i + (if bt i 1 = 0 then (if p ≤ mb i then 0 else if sp_lay (sp_dep (p - mb i) (sp_cs sl lo)) = ly then 1 else 0) else 0) from rfl] at ihh
      by_cases ct : bt i 1 = 0
      · rw [if_pos ct] at ihh
        rw [if_pos ct]
        by_cases cw : p ≤ mb i
        · rw [if_pos cw] at ihh
          rw [if_pos cw, if_pos rfl]
          exact ihh
        · rw [if_neg cw] at ihh
          rw [if_neg cw, if_neg (by decide)]
          by_cases cl : sp_lay (sp_dep (p - mb i) (sp_cs sl lo)) = ly
          · rw [if_pos cl] at ihh
            rw [if_pos (show nI (sp_lay (sp_dep (p - mb i) (sp_cs sl lo))) = nI ly by rw [cl])]
            exact ihh
          · rw [if_neg cl] at ihh
            rw [if_neg (show ¬ nI (sp_lay (sp_dep (p - mb i) (sp_cs sl lo))) = nI ly from fun q => cl ((nI_eq (by omega) (by omega)).mp q))]
            exact ihh
      · rw [if_neg ct] at ihh
        rw [if_neg ct]
        exact ihh
theorem zk_shL {I : Nat → Nat → Int32} {R : Nat → Nat → Option Nat} {F ly p sl lo nb nm : Nat} {mb ms : Nat → Nat} {sc : Nat → Int32} {bt : Nat → Nat → Int32} (hC : zz_CS I R 0 (p, sl, lo, nb, nm, mb, ms, sc, bt)) (hR : zz_RW R 0) (hW : zz_WF (p, sl, lo, nb, nm, mb, ms, sc, bt)) (hly : ly ≤ 9) : ∀ (n d i : Nat), i + d = nb → d < n → mi_X5_shutInLayer_L4 F n I R 0 (nI ly) (nI (sp_sh bt ly i)) (nI i) = some (nI (sp_sh bt ly nb)) := by
  obtain ⟨⟨w1, w2, w3, w4, w5⟩, x1, x2, x3, x4, x5⟩ := hW
  obtain ⟨⟨h0, h1, h2, h3, h4, h5, h6, -⟩, -, -, hb⟩ := hC
  intro n
  induction n with
  | zero => intro d i _ h; omega
  | succ n ih =>
    intro d i hid hdn
    show mi_X5_shutInLayer_B4 _ F I R _ _ _ _ = _
    unfold mi_X5_shutInLayer_B4
    rw [h3]
    cases d with
    | zero =>
      have : i = nb := by omega
      subst this
      rw [if_pos (zl_le (by omega) (by omega))]
    | succ d =>
      have hi : i < nb := by omega
      have e1 : nI i + 1 = nI (i + 1) := nI_add i 1
      have e2 : nI (sp_sh bt ly i) + 1 = nI (sp_sh bt ly i + 1) := nI_add _ 1
      have ihh := ih d (i + 1) (by omega) (by omega)
      rw [if_neg (zl_nle hi (by omega)), zc_bottleAt hR h3 w4 hi, mz_ob, mz_oms, (hb i hi).2.2.2.1]
      simp only [mz_bn, e1, e2]
      rw [show sp_sh bt ly (i + 1) = sp_sh bt ly i + (if bt i 1 = 0 then 0 else if bt i 10 = nI ly then 1 else 0) from rfl] at ihh
      by_cases ct : bt i 1 = 0
      · rw [if_pos ct] at ihh
        rw [if_pos ct]
        exact ihh
      · have ct1 := ((x5 i hi).1).resolve_left ct
        have f7 := ((hb i hi).2.2.2.2.2 ct1).2.2.1
        rw [if_neg ct] at ihh
        rw [if_neg ct]
        have f10 := ((hb i hi).2.2.2.2.2 ct1).2.2.1
        rw [f10]
        by_cases cl : bt i 10 = nI ly
        · rw [if_pos cl] at ihh
          rw [if_pos cl]
          exact ihh
        · rw [if_neg cl] at ihh
          rw [if_neg cl]
          exact ihh
theorem zk_woL {I : Nat → Nat → Int32} {R : Nat → Nat → Option Nat} {F p sl lo nb nm : Nat} {mb ms : Nat → Nat} {sc : Nat → Int32} {bt : Nat → Nat → Int32} (hC : zz_CS I R 0 (p, sl, lo, nb, nm, mb, ms, sc, bt)) (hR : zz_RW R 0) (hW : zz_WF (p, sl, lo, nb, nm, mb, ms, sc, bt)) : ∀ (n d i : Nat) (u v : Int32), i + d = nb → d < n → mi_X8_worst_L8 F n I R u v (nI i) = some (sp_wo bt d i u v) := by
  obtain ⟨⟨w1, w2, w3, w4, w5⟩, x1, x2, x3, x4, x5⟩ := hW
  obtain ⟨⟨h0, h1, h2, h3, h4, h5, h6, -⟩, -, -, hb⟩ := hC
  intro n
  induction n with
  | zero => intro d i u v _ h; omega
  | succ n ih =>
    intro d i u v hid hdn
    show mi_X8_worst_B8 _ F I R _ _ _ = _
    unfold mi_X8_worst_B8
    rw [h3]
    cases d with
    | zero =>
      rw [if_pos (zl_le (by omega) (by omega))]
      rfl
    | succ d =>
      have hi : i < nb := by omega
      have e1 : nI i + 1 = nI (i + 1) := nI_add i 1
      have go : ∀ u1 v1 : Int32, mi_X8_worst_L8 F n I R u1 v1 (nI (i + 1)) = some (sp_wo bt d (i + 1) u1 v1) := fun u1 v1 => ih d (i + 1) u1 v1 (by omega) (by omega)
      rw [if_neg (zl_nle hi (by omega)), zc_bottleAt hR h3 w4 hi, mz_ob, mz_oms, (hb i hi).2.2.2.1]
      simp only [mz_bn, e1]
      unfold sp_wo
      by_cases ct : bt i 1 = 0
      · rw [if_pos ct, if_pos ct]
        exact go _ _
      · have ct1 := ((x5 i hi).1).resolve_left ct
        rw [if_neg ct, if_neg ct, zc_diff (hb i hi) ct1]
        by_cases cd : sp_df (bt i) ≤ v
        · rw [if_pos cd, if_pos cd]
          exact go _ _
        · rw [if_neg cd, if_neg cd]
          exact go _ _
theorem zk_worst {I : Nat → Nat → Int32} {R : Nat → Nat → Option Nat} {A : mz_A} {F : Nat} (hF : 20 ≤ F) (hC : zz_CS I R 0 A) (hR : zz_RW R 0) (hW : zz_WF A) : mi_X8_worst F I R = some (sv_wor A) := by
  obtain ⟨p, sl, lo, nb, nm, mb, ms, sc, bt⟩ := A
  have hn : nb ≤ 10 := hW.1.2.2.2.1
  exact zk_woL hC hR hW F nb 0 _ _ (by omega) (by omega)
theorem zk_layer {I : Nat → Nat → Int32} {R : Nat → Nat → Option Nat} {A : mz_A} {F j q : Nat} (hF : 20 ≤ F) (hC : zz_CS I R 0 A) (hR : zz_RW R 0) (hW : zz_WF A) (hj : j ≤ 9) (hq : q ≤ 3) : mi_X8_layer F I R (nI j) (nI q) = some (sv_lay A j q) := by
  obtain ⟨p, sl, lo, nb, nm, mb, ms, sc, bt⟩ := A
  have hn : nb ≤ 10 := hW.1.2.2.2.1
  have o1 := zk_opL (F := F) (ly := j) hC hR hW hj F nb 0 (by omega) (by omega)
  have o3 := zk_shL (F := F) (ly := j) hC hR hW hj F nb 0 (by omega) (by omega)
  unfold mi_X8_layer
  rw [zc_has (by omega), if_neg (show ¬ (1 : Int32) = 0 by decide), zc_warmthIn (by omega), zc_saltIn (by omega), show mi_X5_openInLayer F I R 0 (nI j) = _ from o1, show mi_X5_shutInLayer F I R 0 (nI j) = _ from o3]
  simp only [mz_ob]
  have hw := hC.2.1 j (by omega)
  rw [Nat.zero_add, Nat.zero_add] at hw
  rw [show I (2 + 1) j = sc (13 + 2 * j) from hw.1, show I (2 + 2) j = sc (14 + 2 * j) from hw.2]
  rcases (show q = 0 ∨ q = 1 ∨ q = 2 ∨ q = 3 by omega) with rfl | rfl | rfl | rfl <;> rfl
theorem zk_mes {I : Nat → Nat → Int32} {R : Nat → Nat → Option Nat} {p sl lo nb nm k : Nat} {mb ms : Nat → Nat} {sc : Nat → Int32} {bt : Nat → Nat → Int32} (hC : zz_CS I R 0 (p, sl, lo, nb, nm, mb, ms, sc, bt)) (hW : zz_WF (p, sl, lo, nb, nm, mb, ms, sc, bt)) (hk : k < nm) : mi_X8_messenger I (nI k) (nI 0) = some (nI (ms k)) ∧ mi_X8_messenger I (nI k) (nI 1) = some (nI (sp_dep (p - ms k) (sp_cs sl lo))) := by
  obtain ⟨⟨w1, w2, w3, w4, w5⟩, x1, x2, x3, x4, x5⟩ := hW
  obtain ⟨⟨h0, h1, h2, h3, h4, -⟩, -, hmm, -⟩ := hC
  have hms := (x3 k hk).2
  constructor
  · unfold mi_X8_messenger
    rw [if_neg (show ¬ nI k < 0 from zl_nlt (b := 0) (by omega) (by omega)), if_neg (show ¬ nI 0 < 0 by decide), if_pos (show nI 0 ≤ 1 by decide), show I 5 1 = nI nm from h4, if_pos (zl_lt hk (by omega)), zc_markAt (by omega), mz_ob, show I (5 + 1) k = nI (ms k) from hmm k hk]
    rfl
  · unfold mi_X8_messenger
    rw [if_neg (show ¬ nI k < 0 from zl_nlt (b := 0) (by omega) (by omega)), if_neg (show ¬ nI 1 < 0 by decide), if_pos (show nI 1 ≤ 1 by decide), show I 5 1 = nI nm from h4, if_pos (zl_lt hk (by omega)), zc_markAt (by omega), mz_ob, show I (5 + 1) k = nI (ms k) from hmm k hk, if_neg (show ¬ nI 1 = 0 by decide), zc_depthOf h0 h1 h2 w2 w3 w1 (by omega)]
    rfl
theorem zk_mesNo {I : Nat → Nat → Int32} {R : Nat → Nat → Option Nat} {A : mz_A} (hC : zz_CS I R 0 A) (hW : zz_WF A) : mi_X8_messenger I (nI (mz_nm A)) (nI 0) = some (-1005) := by
  obtain ⟨p, sl, lo, nb, nm, mb, ms, sc, bt⟩ := A
  obtain ⟨⟨w1, w2, w3, w4, w5⟩, x1, x2, x3, x4, x5⟩ := hW
  obtain ⟨⟨h0, h1, h2, h3, h4, -⟩, -, hmm, -⟩ := hC
  show mi_X8_messenger I (nI nm) (nI 0) = _
  unfold mi_X8_messenger
  rw [if_neg (show ¬ nI nm < 0 from zl_nlt (b := 0) (by omega) (by omega)), if_neg (show ¬ nI 0 < 0 by decide), if_pos (show nI 0 ≤ 1 by decide), show I 5 1 = nI nm from h4, if_neg (zl_nlt (Nat.le_refl _) (by omega))]
theorem zk_bottle {I : Nat → Nat → Int32} {R : Nat → Nat → Option Nat} {A : mz_A} {k j : Nat} (hC : zz_CS I R 0 A) (hR : zz_RW R 0) (hW : zz_WF A) (hk : k < mz_nb A) (hj : j ≤ 13) : mi_X8_bottle I R (nI k) (nI j) = some (sv_bot A k j) := by
  obtain ⟨p, sl, lo, nb, nm, mb, ms, sc, bt⟩ := A
  obtain ⟨⟨w1, w2, w3, w4, w5⟩, x1, x2, x3, x4, x5⟩ := hW
  obtain ⟨⟨h0, h1, h2, h3, h4, h5, h6, -⟩, -, -, hb⟩ := hC
  replace hk : k < nb := hk
  have hmk := x1 k hk
  have hcb := hb k hk
  obtain ⟨g0, g1, g2, g3, g4, g5⟩ := id hcb
  obtain ⟨t1, t2, t4⟩ := x5 k hk
  have cl : mi_X8_bottle I R (nI k) (nI j) = if nI j < 0 then some (-1002) else if nI j ≤ 13 then if nI j < 6 then mi_X8_tellOfAny I (zz_bp R 0 k) (nI j) else if 12 < nI j then mi_X8_tellOfAny I (zz_bp R 0 k) (nI j) else some (mi_X8_tellOfShut I (zz_bp R 0 k) (nI j)) else some (-1002) := by
    unfold mi_X8_bottle
    rw [zc_bottleAt hR h3 w4 hk, mz_ob, mz_oms]
    have eta : ∀ z : Option Int32, (mc_ob z fun r => some r) = z := fun z => by cases z <;> rfl
    rw [eta]
  have bool : ∀ t : Int32, (t = 0 ∨ t = 1) → (if t = 0 then (some 0 : Option Int32) else some 1) = some t := fun t ht => by
    rcases ht with q | q
    · rw [q]; rfl
    · rw [q]; rfl
  rw [cl]
  unfold mi_X8_tellOfAny mi_X8_tellOfShut
  rw [g0, g1, g2, g3, g4, zc_metre h0 w1 hmk, zc_depthOf h0 h1 h2 w2 w3 w1 hmk]
  simp only [mz_ob]
  rcases (show j = 0 ∨ j = 1 ∨ j = 2 ∨ j = 3 ∨ j = 4 ∨ j = 5 ∨ j = 13 ∨ (6 ≤ j ∧ j ≤ 12) by omega) with rfl | rfl | rfl | rfl | rfl | rfl | rfl | hj2
  · repeat (first | rw [if_neg (by decide)] | rw [if_pos (by decide)])
    rfl
  · repeat (first | rw [if_neg (by decide)] | rw [if_pos (by decide)])
    rfl
  · repeat (first | rw [if_neg (by decide)] | rw [if_pos (by decide)])
    rfl
  · repeat (first | rw [if_neg (by decide)] | rw [if_pos (by decide)])
    exact bool _ t1
  · repeat (first | rw [if_neg (by decide)] | rw [if_pos (by decide)])
    exact bool _ t2
  · repeat (first | rw [if_neg (by decide)] | rw [if_pos (by decide)])
    rfl
  · repeat (first | rw [if_neg (by decide)] | rw [if_pos (by decide)])
    exact bool _ t4
  · rw [if_neg (show ¬ nI j < 0 from zl_nlt (b := 0) (by omega) (by omega)), if_pos (show nI j ≤ 13 from zl_le (b := 13) (by omega) (by omega)), if_neg (show ¬ nI j < 6 from zl_nlt (b := 6) (by omega) (by omega)), if_neg (show ¬ (12 : Int32) < nI j from zl_nlt (a := 12) (by omega) (by omega))]
    by_cases ct : bt k 1 = 0
    · rw [if_pos ct]
      rcases (show j = 6 ∨ j = 7 ∨ j = 8 ∨ j = 9 ∨ j = 10 ∨ j = 11 ∨ j = 12 by omega) with rfl | rfl | rfl | rfl | rfl | rfl | rfl <;> exact congrArg some (if_pos ct).symm
    · have ct1 := t1.resolve_left ct
      obtain ⟨f5, f6, f7, f8, f9, f10⟩ := g5 ct1
      have dd : mi_X5_isDoubtful I 0 (zz_bp R 0 k) = if sp_df (bt k) ≤ sc 11 then 0 else 1 := by
        unfold mi_X5_isDoubtful
        rw [g3, if_neg ct, zc_diff hcb ct1, h6]
      have dd2 : (if mi_X5_isDoubtful I 0 (zz_bp R 0 k) = 0 then (0 : Int32) else 1) = if sp_df (bt k) ≤ sc 11 then 0 else 1 := by
        rw [dd]
        by_cases cd : sp_df (bt k) ≤ sc 11
        · rw [if_pos cd, if_pos rfl]
        · rw [if_neg cd, if_neg (by decide)]
      rw [dd2, f5, f6, f8, f9, f10, show mi_X0_depthByPair I (zz_bp R 0 k) = 10 * (bt k 7 - bt k 6) by unfold mi_X0_depthByPair; rw [f9, f8, Int32.mul_comm], if_neg ct]
      rcases (show j = 6 ∨ j = 7 ∨ j = 8 ∨ j = 9 ∨ j = 10 ∨ j = 11 ∨ j = 12 by omega) with rfl | rfl | rfl | rfl | rfl | rfl | rfl <;> (repeat (first | rw [if_neg (by decide)] | rw [if_pos (by decide)])) <;> exact congrArg some (if_neg ct).symm
theorem zk_count {I : Nat → Nat → Int32} {R : Nat → Nat → Option Nat} {A : mz_A} {F ns w : Nat} (hF : 20 ≤ F) (hC : zz_CS I R 0 A) (hR : zz_RW R 0) (hW : zz_WF A) (hst : I 145 1 = nI ns) (hw : w ≤ 17) : mi_X8_count F I R (nI w) = some (sv_cnt ns A w) := by
  have a3 := zc_shutBottles (F := F) hF hC hR hW
  obtain ⟨p, sl, lo, nb, nm, mb, ms, sc, bt⟩ := A
  have hn : nb ≤ 10 := hW.1.2.2.2.1
  have a1 := zk_wtL (F := F) hC hR hW F nb 0 (by omega) (by omega)
  have a5 := zk_dbL (F := F) hC hR hW F nb 0 (by omega) (by omega)
  obtain ⟨⟨w1, w2, w3, w4, w5⟩, -⟩ := hW
  obtain ⟨⟨h0, h1, h2, h3, h4, h5, h6, h7, h8, h9, h10, h11, h12⟩, -, -, hb⟩ := hC
  have hlo : (if nI lo = 0 then (some 0 : Option Int32) else some 1) = some (nI lo) := by
    rcases (show lo = 0 ∨ lo = 1 by omega) with rfl | rfl <;> rfl
  have cl : mi_X8_count F I R (nI w) = if nI w < 0 then some (-1002) else if nI w ≤ 18 then if 8 < nI w then some (mi_X8_countOthers I (nI w)) else mi_X8_countOnCable F I R (nI w) else some (-1002) := by
    unfold mi_X8_count
    have eta : ∀ z : Option Int32, (mc_ob z fun r => some r) = z := fun z => by cases z <;> rfl
    rw [eta]
  rw [cl]
  unfold mi_X8_countOnCable mi_X8_countOthers
  rw [show mi_X5_bottlesInWater F I R 0 = _ from a1, a3, show mi_X5_doubtfulBottles F I R 0 = _ from a5, show I 0 5 = sc 0 from h5, show I 1 0 = nI p from h0, show I 1 1 = nI sl from h1, show I 1 2 = nI lo from h2, show mi_X1_countedSlope I 1 = nI (sp_cs sl lo) from zc_cs h1 h2 w2 w3, h3, show I 5 1 = nI nm from h4, show I 5 2 = sc 6 from h8, show I 5 3 = sc 7 from h9, show I 5 4 = sc 8 from h10, show I 5 5 = sc 9 from h11, show I 5 6 = sc 10 from h12, h6, h7, hst, hlo]
  simp only [mz_ob]
  rcases (show w = 0 ∨ w = 1 ∨ w = 2 ∨ w = 3 ∨ w = 4 ∨ w = 5 ∨ w = 6 ∨ w = 7 ∨ w = 8 ∨ w = 9 ∨ w = 10 ∨ w = 11 ∨ w = 12 ∨ w = 13 ∨ w = 14 ∨ w = 15 ∨ w = 16 ∨ w = 17 by omega) with rfl | rfl | rfl | rfl | rfl | rfl | rfl | rfl | rfl | rfl | rfl | rfl | rfl | rfl | rfl | rfl | rfl | rfl <;> (repeat (first | rw [if_neg (by decide)] | rw [if_pos (by decide)])) <;> rfl

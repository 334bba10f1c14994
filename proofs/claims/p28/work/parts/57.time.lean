/-! what seconds do to one bottle, and when all is quiet -/
def mz_p (A : mz_A) : Nat := A.1
def mz_mb (A : mz_A) : Nat → Nat := A.2.2.2.2.2.1
def zk_tr (p nm g : Nat) (ms0 : Nat → Nat) (s0 : Int32) (b0 b : Nat → Int32) : Prop :=
  (b0 1 = 0 → b = b0 ∨ (¬ b 1 = 0 ∧ b 5 = s0 ∧ b 4 = b0 4 ∧ g < p ∧ ∃ i, i < nm ∧ g < ms0 i)) ∧ (¬ b0 1 = 0 → ∀ j, j ≠ 3 → b j = b0 j)
theorem zk_trsk {p c nm g i : Nat} {ms0 : Nat → Nat} {sc : Nat → Int32} {b0 b : Nat → Int32} (hi : i < nm) (hg : g < ms0 i) (hp : g < p) (h : zk_tr p nm g ms0 (sc 0) b0 b) : zk_tr p nm g ms0 (sc 0) b0 (sp_sk p c sc g b) := by
  have u : ∀ j, j ≠ 3 → va_up b 3 (b 3 + nI 1) j = b j := fun j hj => va_up_ne _ _ hj
  have hsh : ¬ b 1 = 0 → sp_sk p c sc g b = va_up b 3 (b 3 + nI 1) := fun q => if_neg q
  refine ⟨fun h0 => Or.inr ?_, fun h0 j hj => ?_⟩
  · rcases h.1 h0 with e | ⟨e1, e2, e3, e4⟩
    · subst e
      refine ⟨sp_sk_1, ?_, ?_, hp, i, hi, hg⟩
      · unfold sp_sk
        rw [if_pos h0]
        split
        · rfl
        · rw [va_up_ne _ _ (by omega)]
          rfl
      · unfold sp_sk
        rw [if_pos h0]
        split
        · exact u 4 (by omega)
        · rw [va_up_ne _ _ (by omega)]
          exact u 4 (by omega)
    · rw [hsh e1]
      exact ⟨by rw [u 1 (by omega)]; exact e1, by rw [u 5 (by omega)]; exact e2, by rw [u 4 (by omega)]; exact e3, e4⟩
  · have e1 := h.2 h0 1 (by omega)
    rw [hsh (by rw [e1]; exact h0), u j hj]
    exact h.2 h0 j hj
theorem sp_one_l {p c w nb m l sh : Nat} {mb ms : Nat → Nat} {sc : Nat → Int32} {bt : Nat → Nat → Int32} : (sp_one p c w nb mb m (l, ms, sc, bt, sh)).1 ≤ l + 1 := by
  unfold sp_one
  dsimp only
  cases sp_hit p m w mb nb with
  | none =>
    dsimp only
    split
    · exact Nat.le_refl _
    · exact Nat.le_succ _
  | some j =>
    dsimp only
    split
    · exact Nat.le_refl _
    · exact Nat.le_succ _
theorem sp_one_bt {p c w nb m l sh k : Nat} {mb ms : Nat → Nat} {sc : Nat → Int32} {bt : Nat → Nat → Int32} : (sp_one p c w nb mb m (l, ms, sc, bt, sh)).2.2.2.1 k = bt k ∨ (mb k < m ∧ mb k < p ∧ (sp_one p c w nb mb m (l, ms, sc, bt, sh)).2.2.2.1 k = sp_sk p c sc (mb k) (bt k)) := by
  unfold sp_one
  dsimp only
  cases hh : sp_hit p m w mb nb with
  | none =>
    dsimp only
    split <;> exact Or.inl rfl
  | some j =>
    dsimp only
    obtain ⟨k1, k2, k3, k4, -⟩ := sp_hit_some hh
    have : va_up bt j (sp_sk p c sc (mb j) (bt j)) k = bt k ∨ (mb k < m ∧ mb k < p ∧ va_up bt j (sp_sk p c sc (mb j) (bt j)) k = sp_sk p c sc (mb k) (bt k)) := by
      by_cases e : k = j
      · subst e
        exact Or.inr ⟨k2, k4, va_up_self _ _ _⟩
      · exact Or.inl (va_up_ne _ _ e)
    split
    · exact this
    · exact this
theorem zk_trL {p c w nb nm k : Nat} {mb ms0 : Nat → Nat} {s0 : Int32} {b0 : Nat → Int32} : ∀ (d i : Nat) (S : mz_S), i + d = nm → S.1 ≤ i → (∀ j, i ≤ j → S.2.1 j = ms0 j) → S.2.2.1 0 = s0 → zk_tr p nm (mb k) ms0 s0 b0 (S.2.2.2.1 k) → zk_tr p nm (mb k) ms0 s0 b0 ((sp_lp p c w nb mb d i S).2.2.2.1 k) := by
  intro d
  induction d with
  | zero => intro i S _ _ _ _ h; exact h
  | succ d ih =>
    intro i S hid hl hm hs h
    obtain ⟨l, ms, sc, bt, sh⟩ := S
    dsimp only at hl hm hs h
    refine ih (i + 1) (sp_one p c w nb mb (ms i) (l, ms, sc, bt, sh)) (by omega) (Nat.le_trans sp_one_l (by omega)) (fun j hj => ?_) ((sp_one_sc (by omega) (by omega) (by omega)).trans hs) ?_
    · rw [sp_one_old hl j (by omega)]
      exact hm j (by omega)
    · rcases sp_one_bt (p := p) (c := c) (w := w) (nb := nb) (m := ms i) (l := l) (sh := sh) (k := k) (mb := mb) (ms := ms) (sc := sc) (bt := bt) with e | ⟨e1, e2, e3⟩
      · rw [e]
        exact h
      · rw [e3]
        rw [hm i (Nat.le_refl _)] at e1
        subst hs
        exact zk_trsk (by omega) e1 e2 h
theorem zk_sec (A : mz_A) (k : Nat) : (mz_bt A k 1 = 0 → mz_bt (sq_sec A).1 k = mz_bt A k ∨ (¬ mz_bt (sq_sec A).1 k 1 = 0 ∧ mz_bt (sq_sec A).1 k 5 = mz_s0 A + nI 1 ∧ mz_bt (sq_sec A).1 k 4 = mz_bt A k 4 ∧ mz_mb A k < mz_p A ∧ ∃ i, i < mz_nm A ∧ mz_mb A k < mz_ms A i)) ∧ (¬ mz_bt A k 1 = 0 → ∀ j, j ≠ 3 → mz_bt (sq_sec A).1 k j = mz_bt A k j) := by
  obtain ⟨p, sl, lo, nb, nm, mb, ms, sc, bt⟩ := A
  unfold sq_sec
  dsimp only
  by_cases c : sp_cs sl lo < 6
  · rw [if_pos c]
    exact zk_trL (nb := nb) (mb := mb) (ms0 := ms) (s0 := sc 0 + nI 1) (b0 := bt k) nm 0 (0, ms, va_up sc 0 (sc 0 + nI 1), bt, 0) (Nat.zero_add nm) (Nat.le_refl _) (fun _ _ => rfl) (va_up_self sc 0 (sc 0 + nI 1)) ⟨fun _ => Or.inl rfl, fun _ _ _ => rfl⟩
  · rw [if_neg c]
    exact ⟨fun _ => Or.inl rfl, fun _ _ _ => rfl⟩
theorem zk_frz {A : mz_A} (h : mz_nm A = 0 ∨ ¬ mz_cs A < 6) : mz_bt (sq_sec A).1 = mz_bt A ∧ mz_nm (sq_sec A).1 = mz_nm A := by
  obtain ⟨p, sl, lo, nb, nm, mb, ms, sc, bt⟩ := A
  have h' : nm = 0 ∨ ¬ sp_cs sl lo < 6 := h
  unfold sq_sec
  dsimp only
  by_cases c : sp_cs sl lo < 6
  · have h0 : nm = 0 := h'.resolve_right (fun q => q c)
    subst h0
    rw [if_pos c]
    exact ⟨rfl, rfl⟩
  · rw [if_neg c]
    exact ⟨rfl, rfl⟩
theorem mz_p_sec (A : mz_A) : mz_p (sq_sec A).1 = mz_p A ∧ mz_mb (sq_sec A).1 = mz_mb A := by
  obtain ⟨p, sl, lo, nb, nm, mb, ms, sc, bt⟩ := A
  unfold sq_sec mz_p mz_mb
  dsimp only
  split <;> exact ⟨rfl, rfl⟩
theorem zk_frzI : ∀ (n : Nat) (A : mz_A), (mz_nm A = 0 ∨ ¬ mz_cs A < 6) → mz_bt (sp_it n A).1 = mz_bt A ∧ mz_nm (sp_it n A).1 = mz_nm A := by
  intro n
  induction n with
  | zero => intro A _; exact ⟨rfl, rfl⟩
  | succ n ih =>
    intro A h
    obtain ⟨e1, e2⟩ := zk_frz h
    obtain ⟨e3, e4⟩ := ih (sq_sec A).1 (by rw [e2, mz_cs_sec]; exact h)
    exact ⟨e3.trans e1, e4.trans e2⟩
theorem mz_cs_it : ∀ (n : Nat) (A : mz_A), mz_cs (sp_it n A).1 = mz_cs A := by
  intro n
  induction n with
  | zero => intro A; rfl
  | succ n ih => intro A; exact (ih _).trans (mz_cs_sec A)
theorem zk_shutI {k : Nat} : ∀ (n : Nat) (A : mz_A), ¬ mz_bt A k 1 = 0 → ∀ j, j ≠ 3 → mz_bt (sp_it n A).1 k j = mz_bt A k j := by
  intro n
  induction n with
  | zero => intro A _ j _; rfl
  | succ n ih =>
    intro A h j hj
    have e := (zk_sec A k).2 h
    exact (ih (sq_sec A).1 (by rw [e 1 (by omega)]; exact h) j hj).trans (e j hj)
theorem zk_top {A : mz_A} (hW : zz_WF A) {i : Nat} (hi : i < mz_nm A) : mz_ms A i + 1 ≤ mz_mu A := by
  obtain ⟨p, sl, lo, nb, nm, mb, ms, sc, bt⟩ := A
  have hi' : i < nm := hi
  obtain ⟨-, x1, x2, x3, x4, x5⟩ := hW
  have h := x4 i (nm - 1) (by omega) (by omega)
  show ms i + 1 ≤ if nm = 0 then 0 else ms (nm - 1) + 1
  rw [if_neg (by omega)]
  omega
theorem zk_un1 {k : Nat} : ∀ (g u : Nat) (A : mz_A), zz_WF A → mz_bt A k 1 = 0 → sp_un k g A = some u → 1 ≤ u ∧ (∀ n, n < u → mz_bt (sp_it n A).1 k 1 = 0) ∧ (∀ n, u ≤ n → ¬ mz_bt (sp_it n A).1 k 1 = 0 ∧ mz_bt (sp_it n A).1 k 5 = mz_s0 A + nI u ∧ mz_bt (sp_it n A).1 k 4 = mz_bt A k 4) ∧ mz_mb A k < mz_p A ∧ mz_cs A < 6 ∧ mz_nm A ≠ 0 ∧ mz_mb A k + 1 < mz_mu A := by
  intro g
  induction g with
  | zero => intro u A _ _ h; cases h
  | succ g ih =>
    intro u A hW h0 h
    unfold sp_un at h
    rw [if_neg (fun q => q h0)] at h
    by_cases c2 : mz_nm A = 0 ∨ ¬ mz_cs A < 6
    · rw [if_pos c2] at h
      cases h
    · rw [if_neg c2] at h
      have hnm : mz_nm A ≠ 0 := fun q => c2 (Or.inl q)
      have hcs : mz_cs A < 6 := Decidable.not_not.mp (fun q => c2 (Or.inr q))
      have hmu := mz_mu_sec hW hnm hcs
      obtain ⟨ep, em⟩ := mz_p_sec A
      cases hh : sp_un k g (sq_sec A).1 with
      | none =>
        rw [hh] at h
        cases h
      | some v =>
        rw [hh] at h
        have hu : u = v + 1 := by
          simp only [Option.map_some] at h
          cases h
          rfl
        subst hu
        by_cases c3 : mz_bt (sq_sec A).1 k 1 = 0
        · have hsame := ((zk_sec A k).1 h0).resolve_right (fun q => q.1 c3)
          obtain ⟨i1, i2, i3, i4, i5, i6, i7⟩ := ih v (sq_sec A).1 (zw_sec hW) c3 hh
          refine ⟨by omega, fun n hn => ?_, fun n hn => ?_, ?_, hcs, hnm, ?_⟩
          · cases n with
            | zero => exact h0
            | succ n => exact i2 n (by omega)
          · obtain ⟨n, rfl⟩ : ∃ n', n = n' + 1 := ⟨n - 1, by omega⟩
            obtain ⟨a, b, c⟩ := i3 n (by omega)
            refine ⟨a, b.trans ?_, c.trans ?_⟩
            · rw [mz_s0_sec, Int32.add_assoc, nI_add, Nat.add_comm 1 v]
            · rw [hsame]
          · rw [← ep, ← em]
            exact i4
          · rw [← em]
            omega
        · obtain ⟨e1, e2, e3, e4, i, hi, e5⟩ := ((zk_sec A k).1 h0).resolve_left (fun q => c3 (by rw [q]; exact h0))
          have hv : v = 0 := by
            cases g with
            | zero => cases hh
            | succ g =>
              unfold sp_un at hh
              rw [if_pos c3] at hh
              cases hh
              rfl
          subst hv
          have ht := zk_top hW hi
          refine ⟨by omega, fun n hn => ?_, fun n hn => ?_, e4, hcs, hnm, by omega⟩
          · have : n = 0 := by omega
            subst this
            exact h0
          · obtain ⟨n, rfl⟩ : ∃ n', n = n' + 1 := ⟨n - 1, by omega⟩
            have hz := zk_shutI n (sq_sec A).1 c3
            refine ⟨?_, (hz 5 (by omega)).trans e2, (hz 4 (by omega)).trans e3⟩
            show ¬ mz_bt (sp_it n (sq_sec A).1).1 k 1 = 0
            rw [hz 1 (by omega)]
            exact c3
theorem zk_un2 {k : Nat} : ∀ (g : Nat) (A : mz_A), zz_WF A → mz_mu A < g → sp_un k g A = none → ∀ n, mz_bt (sp_it n A).1 k 1 = 0 := by
  intro g
  induction g with
  | zero => intro A _ h; omega
  | succ g ih =>
    intro A hW hmu h n
    unfold sp_un at h
    by_cases c1 : ¬ mz_bt A k 1 = 0
    · rw [if_pos c1] at h
      cases h
    · rw [if_neg c1] at h
      have h0 := Decidable.not_not.mp c1
      by_cases c2 : mz_nm A = 0 ∨ ¬ mz_cs A < 6
      · rw [(zk_frzI n A c2).1]
        exact h0
      · rw [if_neg c2] at h
        have hd := mz_mu_sec hW (fun q => c2 (Or.inl q)) (Decidable.not_not.mp (fun q => c2 (Or.inr q)))
        have hh : sp_un k g (sq_sec A).1 = none := by
          cases hq : sp_un k g (sq_sec A).1 with
          | none => rfl
          | some v =>
            rw [hq] at h
            cases h
        cases n with
        | zero => exact h0
        | succ n => exact ih (sq_sec A).1 (zw_sec hW) (by omega) hh n
theorem zk_unq {k : Nat} : ∀ (g u : Nat) (A : mz_A), sp_un k g A = some u → u ≤ sp_uq g A := by
  intro g
  induction g with
  | zero => intro u A h; cases h
  | succ g ih =>
    intro u A h
    unfold sp_un at h
    unfold sp_uq
    by_cases c1 : ¬ mz_bt A k 1 = 0
    · rw [if_pos c1] at h
      cases h
      exact Nat.zero_le _
    · rw [if_neg c1] at h
      by_cases c2 : mz_nm A = 0 ∨ ¬ mz_cs A < 6
      · rw [if_pos c2] at h
        cases h
      · rw [if_neg c2] at h
        rw [if_neg (fun q => c2 (Or.inl q))]
        cases hh : sp_un k g (sq_sec A).1 with
        | none =>
          rw [hh] at h
          cases h
        | some v =>
          rw [hh] at h
          have := ih v _ hh
          simp only [Option.map_some] at h
          cases h
          omega
theorem zk_uqle : ∀ (g : Nat) (A : mz_A), sp_uq g A ≤ g := by
  intro g
  induction g with
  | zero => intro A; exact Nat.le_refl _
  | succ g ih =>
    intro A
    unfold sp_uq
    have := ih (sq_sec A).1
    split <;> omega
theorem zk_uq0 {g : Nat} {A : mz_A} (h : mz_nm A = 0) : sp_uq (g + 1) A = 0 := if_pos h
theorem zk_uq1 {g : Nat} {A : mz_A} (h : ¬ mz_nm A = 0) : 1 ≤ sp_uq (g + 1) A := by
  unfold sp_uq
  rw [if_neg h]
  omega
theorem zk_uqI : ∀ (n : Nat) (A : mz_A), zz_WF A → (mz_nm A = 0 ∨ mz_cs A < 6) → sp_uq 1100 (sp_it n A).1 = sp_uq 1100 A - n := by
  intro n
  induction n with
  | zero => intro A _ _; rfl
  | succ n ih =>
    intro A hW h
    by_cases c : mz_nm A = 0
    · have h1 := (zk_frzI (n + 1) A (Or.inl c)).2
      rw [zk_uq0 (g := 1099) (h1.trans c), zk_uq0 (g := 1099) c]
      omega
    · have hc := h.resolve_left c
      have h1 := sp_uq_it (g := 1100) (by omega) 1 A hW (fun u hu => by
        have : u = 0 := by omega
        subst this
        exact ⟨c, hc⟩)
      rw [sp_it_one] at h1
      have h2 := ih (sq_sec A).1 (zw_sec hW) (Or.inr (by rw [mz_cs_sec]; exact hc))
      show sp_uq 1100 (sp_it n (sq_sec A).1).1 = _
      omega
def sv_qt (A : mz_A) : Int32 := if mz_nm A = 0 then 0 else if mz_cs A < 6 then nI (sp_uq 1100 A) else -1005
theorem zk_qt {n : Nat} {A : mz_A} (hW : zz_WF A) (hn : n ≤ 999) : sv_qt (sp_it n A).1 = if sv_qt A = -1005 then -1005 else if sv_qt A ≤ nI n then 0 else sv_qt A - nI n := by
  by_cases c : mz_nm A = 0
  · have h1 := (zk_frzI n A (Or.inl c)).2
    rw [show sv_qt (sp_it n A).1 = 0 from if_pos (h1.trans c), show sv_qt A = 0 from if_pos c, if_neg (by decide), if_pos (show (0 : Int32) ≤ nI n from zl_le (a := 0) (by omega) (by omega))]
  · by_cases h : mz_cs A < 6
    · have hq := zk_uqI n A hW (Or.inr h)
      have hq1 : 1 ≤ sp_uq 1100 A := zk_uq1 (g := 1099) c
      have hql := zk_uqle 1100 A
      have e : sv_qt A = nI (sp_uq 1100 A) := (if_neg c).trans (if_pos h)
      rw [e, if_neg (mz_enc_no (by omega))]
      by_cases hle : sp_uq 1100 A ≤ n
      · rw [if_pos (zl_le hle (by omega))]
        have h0 : mz_nm (sp_it n A).1 = 0 := by
          by_cases q : mz_nm (sp_it n A).1 = 0
          · exact q
          · have : 1 ≤ sp_uq 1100 (sp_it n A).1 := zk_uq1 (g := 1099) q
            omega
        exact if_pos h0
      · rw [if_neg (zl_nle (by omega) (by omega)), zi_sub (by omega), ← hq]
        have h0 : ¬ mz_nm (sp_it n A).1 = 0 := fun q => by
          have : sp_uq 1100 (sp_it n A).1 = 0 := zk_uq0 (g := 1099) q
          omega
        exact (if_neg h0).trans (if_pos (by rw [mz_cs_it]; exact h))
    · have h1 := (zk_frzI n A (Or.inr h)).2
      rw [show sv_qt A = -1005 from (if_neg c).trans (if_neg h), if_pos rfl]
      exact (if_neg (by rw [h1]; exact c)).trans (if_neg (by rw [mz_cs_it]; exact h))
def sp_dk (n : Nat) (A : mz_A) (k : Nat) : Nat := if mz_bt A k 1 = 0 then (match sp_un k 1100 A with | none => 0 | some u => if u ≤ n then 1 else 0) else 0
def sp_due (n : Nat) (A : mz_A) : Nat → Nat
  | 0 => 0
  | k + 1 => sp_due n A k + sp_dk n A k
theorem zk_due {n : Nat} {A : mz_A} (hW : zz_WF A) : ∀ m, sp_ct (mz_bt (sp_it n A).1) m = sp_ct (mz_bt A) m + sp_due n A m := by
  have hmu := mz_mu_le hW
  intro m
  induction m with
  | zero => rfl
  | succ m ih =>
    show sp_ct (mz_bt (sp_it n A).1) m + (if mz_bt (sp_it n A).1 m 1 = 0 then 0 else 1) = sp_ct (mz_bt A) m + (if mz_bt A m 1 = 0 then 0 else 1) + (sp_due n A m + sp_dk n A m)
    rw [ih]
    unfold sp_dk
    by_cases c : mz_bt A m 1 = 0
    · rw [if_pos c, if_pos c]
      cases hu : sp_un m 1100 A with
      | none =>
        rw [if_pos (zk_un2 1100 A hW (by omega) hu n)]
        dsimp only
        omega
      | some u =>
        obtain ⟨u1, u2, u3, -⟩ := zk_un1 1100 u A hW c hu
        dsimp only
        by_cases hle : u ≤ n
        · rw [if_pos hle, if_neg (u3 n hle).1]
          omega
        · rw [if_neg hle, if_pos (u2 n (by omega))]
          omega
    · have hz := zk_shutI n A c 1 (by omega)
      rw [if_neg c, if_neg c, hz, if_neg c]
      omega

/-! PURE PART: numbers, memory, the words of a state -/
theorem zi_lit (n : Nat) : (OfNat.ofNat n : Int32) = nI n := Eq.trans rfl rfl
theorem zi_cl {n : Nat} (h : n < 2147483648) : (nI n).toNatClampNeg = n := nI_clamp h
theorem zi_le {a b : Nat} (ha : a < 2147483648) (hb : b < 2147483648) : (nI a ≤ nI b) = (a ≤ b) := propext (nI_leI ha hb)
theorem zi_lt {a b : Nat} (ha : a < 2147483648) (hb : b < 2147483648) : (nI a < nI b) = (a < b) := propext (nI_ltI ha hb)
theorem zi_eq {a b : Nat} (ha : a < 2147483648) (hb : b < 2147483648) : (nI a = nI b) = (a = b) := propext (nI_eq ha hb)
theorem zi_add (a b : Nat) : nI a + nI b = nI (a + b) := nI_add a b
theorem zi_mul (a b : Nat) : nI a * nI b = nI (a * b) := pk_mul a b
theorem zi_sub {a b : Nat} (h : b ≤ a) : nI a - nI b = nI (a - b) := pk_sub h
theorem zi_div {a d : Nat} (ha : a < 2147483648) (h0 : 0 < d) (hd : d < 2147483648) : nI a / nI d = nI (a / d) := pk_div ha h0 hd
theorem zi_pre {n : Nat} (h : 0 < n) : nI n + (-nI 1) = nI (n - 1) := by
  obtain ⟨m, rfl⟩ : ∃ m, n = m + 1 := ⟨n - 1, by omega⟩
  exact pk_m1 m
theorem zl_le {a b : Nat} (h : a ≤ b) (hb : b < 2147483648) : nI a ≤ nI b := nI_le h hb
theorem zl_nle {a b : Nat} (h : b < a) (ha : a < 2147483648) : ¬ nI a ≤ nI b := nI_ge h ha
theorem zl_lt {a b : Nat} (h : a < b) (hb : b < 2147483648) : nI a < nI b := nI_lt h hb
theorem zl_nlt {a b : Nat} (h : b ≤ a) (ha : a < 2147483648) : ¬ nI a < nI b := nI_nlt h ha
theorem zn_nle {a b : Nat} (h : b < a) : (a ≤ b) = False := eq_false (by omega)
theorem zn_yle {a b : Nat} (h : a ≤ b) : (a ≤ b) = True := eq_true h
theorem zn_nlt {a b : Nat} (h : b ≤ a) : (a < b) = False := eq_false (by omega)
theorem zn_ylt {a b : Nat} (h : a < b) : (a < b) = True := eq_true h
theorem zn_ne {a b : Nat} (h : a ≠ b) : (a = b) = False := eq_false h
theorem mz_u {α : Type} (I : Nat → Nat → α) (a k : Nat) (v : α) (x y : Nat) : mc_u I a k v x y = if x = a ∧ y = k then v else I x y := by
  unfold mc_u va_up
  by_cases h1 : x = a
  · subst h1
    by_cases h2 : y = k
    · simp [h2]
    · simp [h2]
  · simp [h1]
theorem mz_ux {α : Type} (I : Nat → Nat → α) {a k : Nat} {v : α} {x : Nat} (h : x ≠ a) : mc_u I a k v x = I x := by
  unfold mc_u
  rw [va_up_ne _ _ h]
theorem mz_ob {α β : Type} (x : α) (f : α → Option β) : mc_ob (some x) f = f x := rfl
theorem mz_ob2 {α β γ : Type} (x : α) (y : β) (f : α → β → Option γ) : mc_ob2 (some (x, y)) f = f x y := rfl
theorem mz_ob3 {α β γ δ : Type} (x : α) (y : β) (z : γ) (f : α → β → γ → Option δ) : mc_ob3 (some (x, y, z)) f = f x y z := rfl
theorem mz_bn {α β : Type} (x : α) (f : α → β) : mc_bn x f = f x := rfl
theorem mz_bn2 {α β γ : Type} (x : α) (y : β) (f : α → β → γ) : mc_bn2 (x, y) f = f x y := rfl
theorem mz_omn {α β : Type} (a : β) (f : α → β) : mc_om (none : Option α) a f = a := rfl
theorem mz_oms {α β : Type} (x : α) (a : β) (f : α → β) : mc_om (some x) a f = f x := rfl
/-! a state: p paid, sl slope, lo lost, nb bottles, nm messengers, mb the bottles' marks, ms the messengers', sc the other numbers as the reference numbers them (0 second, 6 to 10 accounts, 11, 12 settings, 13 to 32 water), bt the bottles' other fields as the reference numbers them -/
abbrev mz_A : Type := Nat × Nat × Nat × Nat × Nat × (Nat → Nat) × (Nat → Nat) × (Nat → Int32) × (Nat → Nat → Int32)
def zz_bp (R : Nat → Nat → Option Nat) (a k : Nat) : Nat := (R (a + 7) k).getD 0
def zz_RW (R : Nat → Nat → Option Nat) (a : Nat) : Prop := ∀ k, k < 10 → R (a + 7) k = some (zz_bp R a k) ∧ a + 8 ≤ zz_bp R a k ∧ zz_bp R a k < a + 18 ∧ ∀ j, j < 10 → zz_bp R a k = zz_bp R a j → k = j
def zz_cb (f : Nat → Int32) (g : Nat) (t : Nat → Int32) : Prop := f 0 = nI g ∧ f 1 = t 2 ∧ f 2 = t 3 ∧ f 3 = t 1 ∧ f 4 = t 4 ∧ (t 1 = 1 → f 5 = t 5 ∧ f 6 = t 9 ∧ f 7 = t 10 ∧ f 8 = t 6 ∧ f 9 = t 7 ∧ f 10 = t 8)
def zz_CS (I : Nat → Nat → Int32) (R : Nat → Nat → Option Nat) (a : Nat) : mz_A → Prop
  | (p, sl, lo, nb, nm, mb, ms, sc, bt) => (I (a + 1) 0 = nI p ∧ I (a + 1) 1 = nI sl ∧ I (a + 1) 2 = nI lo ∧ I a 4 = nI nb ∧ I (a + 5) 1 = nI nm ∧ I a 5 = sc 0 ∧ I a 6 = sc 11 ∧ I a 7 = sc 12 ∧ I (a + 5) 2 = sc 6 ∧ I (a + 5) 3 = sc 7 ∧ I (a + 5) 4 = sc 8 ∧ I (a + 5) 5 = sc 9 ∧ I (a + 5) 6 = sc 10) ∧
    (∀ k, k < 10 → I (a + 3) k = sc (13 + 2 * k) ∧ I (a + 4) k = sc (14 + 2 * k)) ∧ (∀ k, k < nm → I (a + 6) k = nI (ms k)) ∧ (∀ k, k < nb → zz_cb (I (zz_bp R a k)) (mb k) (bt k))
def zz_WF : mz_A → Prop
  | (p, sl, lo, nb, nm, mb, ms, _, bt) => (p ≤ 999 ∧ sl ≤ 6 ∧ lo ≤ 1 ∧ nb ≤ 10 ∧ nm ≤ 12) ∧ (∀ k, k < nb → mb k ≤ 999) ∧ (∀ k j, k < j → j < nb → mb k + 5 ≤ mb j) ∧ (∀ k, k < nm → 0 ≤ ms k ∧ ms k ≤ p) ∧ (∀ k j, k ≤ j → j < nm → ms k ≤ ms j) ∧
    (∀ k, k < nb → (bt k 1 = 0 ∨ bt k 1 = 1) ∧ (bt k 2 = 0 ∨ bt k 2 = 1) ∧ (bt k 4 = 0 ∨ bt k 4 = 1))
def zz_fr (a : Nat) (I I1 : Nat → Nat → Int32) : Prop := ∀ x, (x < a ∨ a + 18 ≤ x) → I1 x = I x
def zz_frR (a : Nat) (R R1 : Nat → Nat → Option Nat) : Prop := ∀ x, x ≠ a + 7 → R1 x = R x
def zz_frJ (b : Nat) (J J1 : Nat → Nat → Int32) : Prop := (∀ x, x ≠ 1 → J1 x = J x) ∧ ∀ i, (i < b ∨ b + 177 ≤ i) → J1 1 i = J 1 i
/-! what a state says -/
def sp_cs (sl lo : Nat) : Nat := if sl + 2 * lo ≤ 6 then sl + 2 * lo else 6
def sp_w (c : Nat) : Nat := if 4 < c then 1 else 5 - c
def sp_f (c : Nat) : Nat := match c with
  | 0 => 1000
  | 1 => 985
  | 2 => 940
  | 3 => 866
  | 4 => 766
  | 5 => 643
  | _ => 500
def sp_dep (m c : Nat) : Nat := m * sp_f c / 1000
def sp_lay (d : Nat) : Nat := if d / 100 ≤ 9 then d / 100 else 9
def sp_sb (p c : Nat) (sc : Nat → Int32) (g : Nat) (t : Nat → Int32) : Nat → Int32 := fun j => if j = 1 then 1 else if j = 5 then sc 0 else if j = 6 then sc (13 + 2 * sp_lay (sp_dep (p - g) c)) else if j = 7 then sc (13 + 2 * sp_lay (sp_dep (p - g) c)) + nI (sp_dep (p - g) c / 10) else if j = 8 then sc (14 + 2 * sp_lay (sp_dep (p - g) c)) else if j = 9 then nI (p - g) else if j = 10 then nI (sp_lay (sp_dep (p - g) c)) else t j
theorem sp_cs_le (sl lo : Nat) : sp_cs sl lo ≤ 6 := by
  unfold sp_cs
  split <;> omega
theorem sp_f_le (c : Nat) : sp_f c ≤ 1000 ∧ 500 ≤ sp_f c := by
  unfold sp_f
  split <;> omega
theorem sp_lay_le (d : Nat) : sp_lay d ≤ 9 := by
  unfold sp_lay
  split <;> omega
theorem sp_mf_le {m c : Nat} (hm : m ≤ 999) : m * sp_f c ≤ 999000 := Nat.le_trans (Nat.mul_le_mul hm (sp_f_le c).1) (by omega)
theorem sp_dep_le {m c : Nat} (hm : m ≤ 999) : sp_dep m c ≤ 999 := by
  have := sp_mf_le (c := c) hm
  unfold sp_dep
  omega


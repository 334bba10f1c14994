-- mirror of the law (by wip/p28/gen/gen_law.py)
def mi_L_law_J314 (L : Nat) (xs : Nat → Int32) (F : Nat) (I : Nat → Nat → Int32) (R : Nat → Nat → Option Nat) (v2 : Int32) : Option Int32 :=
  if v2 = 0 then
    some 0
  else
    mc_ob (mi_L_hangs F I R) fun r6 =>
    if r6 = 0 then
      some 0
    else
      some 1
def mi_L_law_J275 (k15 : (Nat → Nat → Int32) → (Nat → Nat → Option Nat) → Int32 → Int32 → Option Int32) (L : Nat) (xs : Nat → Int32) (F : Nat) (I : Nat → Nat → Int32) (R : Nat → Nat → Option Nat) (v3 : Int32) (v5 : Int32) : Option Int32 :=
  if 0 < (v3 - v3 / 4 * 4) then
    mc_bn ((v3 + 1)) fun x39 =>
    k15 I R 1 x39
  else
    mc_ob (mi_L_low (v5 >>> (5 &&& 31)) 1400) fun r40 =>
    mc_ob3 (mi_L_jerks F I R (r40 - 500)) fun I42 R43 r44 =>
    if r44 = 0 then
      mc_bn ((v3 + 1)) fun x48 =>
      k15 I42 R43 0 x48
    else
      mc_bn ((v3 + 1)) fun x49 =>
      k15 I42 R43 1 x49
def mi_L_law_J240 (k15 : (Nat → Nat → Int32) → (Nat → Nat → Option Nat) → Int32 → Int32 → Option Int32) (L : Nat) (xs : Nat → Int32) (F : Nat) (I : Nat → Nat → Int32) (R : Nat → Nat → Option Nat) (v2 : Int32) (v3 : Int32) (v5 : Int32) : Option Int32 :=
  if v2 = 0 then
    mc_bn ((v3 + 1)) fun x31 =>
    k15 I R 0 x31
  else
    mc_ob (mi_L_hangs F I R) fun r32 =>
    if r32 = 0 then
      mc_bn ((v3 + 1)) fun x36 =>
      k15 I R 0 x36
    else
      if 0 < (v3 - v3 / 3 * 3) then
        mi_L_law_J275 k15 L xs F I R v3 v5
      else
        mc_ob (mi_L_low (v5 >>> (2 &&& 31)) 60) fun r50 =>
        mc_ob3 (mi_L_shuts F I R (1 + r50)) fun I52 R53 r54 =>
        if r54 = 0 then
          mc_bn ((v3 + 1)) fun x58 =>
          k15 I52 R53 0 x58
        else
          mi_L_law_J275 k15 L xs F I52 R53 v3 v5
def mi_L_law_J208 (k15 : (Nat → Nat → Int32) → (Nat → Nat → Option Nat) → Int32 → Int32 → Option Int32) (L : Nat) (xs : Nat → Int32) (F : Nat) (I : Nat → Nat → Int32) (R : Nat → Nat → Option Nat) (v3 : Int32) (v4 : Int32) (v5 : Int32) (v7 : Int64) (v9 : Int32) (s0 : Int32) (s1 : Int32) : Option Int32 :=
  if s1 = s0 then
    mc_ob (mi_L_print F I R) fun r68 =>
    if (lg_cmp r68 v7) = 0 then
      mc_ob3 (mi_L_act F I R v4 v5) fun I71 R72 r73 =>
      if r73 = v9 then
        mi_L_law_J240 k15 L xs F I71 R72 1 v3 v5
      else
        mi_L_law_J240 k15 L xs F I71 R72 0 v3 v5
    else
      mi_L_law_J240 k15 L xs F I R 0 v3 v5
  else
    mi_L_law_J240 k15 L xs F I R 0 v3 v5
def mi_L_law_J170 (k15 : (Nat → Nat → Int32) → (Nat → Nat → Option Nat) → Int32 → Int32 → Option Int32) (L : Nat) (xs : Nat → Int32) (F : Nat) (I : Nat → Nat → Int32) (R : Nat → Nat → Option Nat) (v3 : Int32) (v4 : Int32) (v5 : Int32) (v6 : Int32) (v7 : Int64) (v9 : Int32) (s0 : Int32) : Option Int32 :=
  if s0 = 0 then
    mi_L_law_J240 k15 L xs F I R s0 v3 v5
  else
    if v3 ≤ 4 then
      mi_L_law_J240 k15 L xs F I R s0 v3 v5
    else
      mc_ob (mi_L_low (v4 >>> (7 &&& 31)) 4) fun r60 =>
      if r60 = 0 then
        mc_ob2 (mi_X8_undo F I R) fun I63 r64 =>
        if 4 ≤ v6 then
          mi_L_law_J208 k15 L xs F I63 R v3 v4 v5 v7 v9 3 r64
        else
          mi_L_law_J208 k15 L xs F I63 R v3 v4 v5 v7 v9 v6 r64
      else
        mi_L_law_J240 k15 L xs F I R s0 v3 v5
def mi_L_law_J162 (k15 : (Nat → Nat → Int32) → (Nat → Nat → Option Nat) → Int32 → Int32 → Option Int32) (L : Nat) (xs : Nat → Int32) (F : Nat) (I : Nat → Nat → Int32) (R : Nat → Nat → Option Nat) (v3 : Int32) (v4 : Int32) (v5 : Int32) (v6 : Int32) (v7 : Int64) (v9 : Int32) (s0 : Int32) (s1 : Int32) : Option Int32 :=
  if s1 = s0 then
    mi_L_law_J170 k15 L xs F I R v3 v4 v5 v6 v7 v9 1
  else
    mi_L_law_J170 k15 L xs F I R v3 v4 v5 v6 v7 v9 0
def mi_L_law_J102 (k15 : (Nat → Nat → Int32) → (Nat → Nat → Option Nat) → Int32 → Int32 → Option Int32) (L : Nat) (xs : Nat → Int32) (F : Nat) (I : Nat → Nat → Int32) (R : Nat → Nat → Option Nat) (v3 : Int32) (v4 : Int32) (v5 : Int32) (v6 : Int32) (v7 : Int64) (s0 : Int32) : Option Int32 :=
  if (-1000) ≤ s0 then
    mc_ob (mi_X8_count F I R 17) fun r25 =>
    if 4 ≤ v6 then
      mi_L_law_J162 k15 L xs F I R v3 v4 v5 v6 v7 s0 4 r25
    else
      mi_L_law_J162 k15 L xs F I R v3 v4 v5 v6 v7 s0 (v6 + 1) r25
  else
    mc_ob (mi_X8_count F I R 17) fun r76 =>
    if r76 = v6 then
      mc_ob (mi_L_print F I R) fun r79 =>
      if (lg_cmp r79 v7) = 0 then
        mi_L_law_J240 k15 L xs F I R 1 v3 v5
      else
        mi_L_law_J240 k15 L xs F I R 0 v3 v5
    else
      mi_L_law_J240 k15 L xs F I R 0 v3 v5
def mi_L_law_B15 (k15 : (Nat → Nat → Int32) → (Nat → Nat → Option Nat) → Int32 → Int32 → Option Int32) (L : Nat) (xs : Nat → Int32) (F : Nat) (I : Nat → Nat → Int32) (R : Nat → Nat → Option Nat) (v2 : Int32) (v3 : Int32) : Option Int32 :=
  if 44 ≤ v3 then
    mi_L_law_J314 L xs F I R v2
  else
    if v2 = 0 then
      mi_L_law_J314 L xs F I R v2
    else
      if ((2 * v3) < 0) then none else
      mc_bn ((mz_cell L xs (2 * v3))) fun x12 =>
      if (((2 * v3) + 1) < 0) then none else
      mc_bn ((mz_cell L xs ((2 * v3) + 1))) fun x14 =>
      mc_ob (mi_X8_count F I R 17) fun r15 =>
      mc_ob (mi_L_print F I R) fun r17 =>
      if 4 ≤ v3 then
        mc_ob3 (mi_L_act F I R x12 x14) fun I20 R21 r22 =>
        mi_L_law_J102 k15 L xs F I20 R21 v3 x12 x14 r15 r17 r22
      else
        if (v3 - v3 / 2 * 2) = 0 then
          mc_ob3 (mi_X8_clamp F I R 1) fun I89 R90 r91 =>
          mi_L_law_J102 k15 L xs F I89 R90 v3 x12 x14 r15 r17 r91
        else
          mc_ob (mi_L_low x14 120) fun r83 =>
          mc_ob3 (mi_X8_pay F I R (5 + r83)) fun I85 R86 r87 =>
          mi_L_law_J102 k15 L xs F I85 R86 v3 x12 x14 r15 r17 r87
def mi_L_law_L15 (L : Nat) (xs : Nat → Int32) (F : Nat) : Nat → (Nat → Nat → Int32) → (Nat → Nat → Option Nat) → Int32 → Int32 → Option Int32
  | 0, _, _, _, _ => none
  | n + 1, I, R, v2, v3 => mi_L_law_B15  (mi_L_law_L15 L xs F n) L xs F I R v2 v3
def mi_L_law (L : Nat) (xs : Nat → Int32) (F : Nat) (I : Nat → Nat → Int32) (R : Nat → Nat → Option Nat) : Option Int32 :=
  mc_ob (mi_L_hangs F I R) fun r1 =>
  mi_L_law_L15 L xs F F I R r1 0

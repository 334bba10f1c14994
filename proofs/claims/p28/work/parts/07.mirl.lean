-- mirrors of the law's own methods (by wip/p28/gen/gen_parts.py)
def mi_L_low (v0 : Int32) (v1 : Int32) : Option (Int32) :=
  if (v1 = 0) then none else
  some ((v0 &&& 2147483647) - (v0 &&& 2147483647) / v1 * v1)
def mi_L_bottles_J475 (k24 : (Nat → Nat → Int32) → (Nat → Nat → Option Nat) → Int32 → Int32 → Int32 → Int32 → Int32 → Int32 → Int32 → Option (Int32)) (F : Nat) (I : Nat → Nat → Int32) (R : Nat → Nat → Option Nat) (v1 : Int32) (v2 : Int32) (v3 : Int32) (v4 : Int32) (v5 : Int32) (v6 : Int32) (v7 : Int32) (s0 : Int32) (s1 : Int32) : Option (Int32) :=
  if s1 = s0 then
    mc_bn ((v7 + 1)) fun x87 =>
    k24 I R v1 v2 v3 v4 v5 v6 x87
  else
    some 0
def mi_L_bottles_J392 (k24 : (Nat → Nat → Int32) → (Nat → Nat → Option Nat) → Int32 → Int32 → Int32 → Int32 → Int32 → Int32 → Int32 → Option (Int32)) (F : Nat) (I : Nat → Nat → Int32) (R : Nat → Nat → Option Nat) (v1 : Int32) (v2 : Int32) (v3 : Int32) (v4 : Int32) (v5 : Int32) (v6 : Int32) (v7 : Int32) (v11 : Int32) (v12 : Int32) : Option (Int32) :=
  mc_ob (mi_X8_bottle I R v7 6) fun r67 =>
  mc_ob (mi_X8_count F I R 0) fun r69 =>
  if r69 < r67 then
    some 0
  else
    mc_ob (mi_X8_bottle I R v7 8) fun r72 =>
    mc_ob (mi_X8_bottle I R v7 7) fun r74 =>
    if v11 = (10 * (r72 - r74)) then
      if v11 < 0 then
        some 0
      else
        mc_ob (mi_X8_bottle I R v7 11) fun r78 =>
        if r78 < v11 then
          some 0
        else
          mc_ob (mi_X8_bottle I R v7 12) fun r81 =>
          mc_ob (mi_X8_count F I R 15) fun r83 =>
          if v12 ≤ r83 then
            mi_L_bottles_J475 k24 F I R v1 v2 v3 v4 v5 v6 v7 0 r81
          else
            mi_L_bottles_J475 k24 F I R v1 v2 v3 v4 v5 v6 v7 1 r81
    else
      some 0
def mi_L_bottles_J348 (k24 : (Nat → Nat → Int32) → (Nat → Nat → Option Nat) → Int32 → Int32 → Int32 → Int32 → Int32 → Int32 → Int32 → Option (Int32)) (F : Nat) (I : Nat → Nat → Int32) (R : Nat → Nat → Option Nat) (v1 : Int32) (v2 : Int32) (v3 : Int32) (v4 : Int32) (v5 : Int32) (v7 : Int32) (v11 : Int32) (v12 : Int32) (s0 : Int32) : Option (Int32) :=
  mc_ob (mi_X8_bottle I R v7 5) fun r59 =>
  mc_ob (mi_X8_bottle I R v7 13) fun r61 =>
  if (r59 + r61) < 1 then
    some 0
  else
    mc_ob (mi_X8_bottle I R v7 4) fun r64 =>
    if r64 = 1 then
      mc_ob (mi_X8_bottle I R v7 13) fun r88 =>
      if r88 = 0 then
        some 0
      else
        mi_L_bottles_J392 k24 F I R v1 v2 v3 v4 v5 s0 v7 v11 v12
    else
      mi_L_bottles_J392 k24 F I R v1 v2 v3 v4 v5 s0 v7 v11 v12
def mi_L_bottles_J332 (k24 : (Nat → Nat → Int32) → (Nat → Nat → Option Nat) → Int32 → Int32 → Int32 → Int32 → Int32 → Int32 → Int32 → Option (Int32)) (F : Nat) (I : Nat → Nat → Int32) (R : Nat → Nat → Option Nat) (v1 : Int32) (v2 : Int32) (v3 : Int32) (v4 : Int32) (v6 : Int32) (v7 : Int32) (v11 : Int32) (v12 : Int32) (s0 : Int32) : Option (Int32) :=
  if v12 ≤ v6 then
    mi_L_bottles_J348 k24 F I R v1 v2 v3 v4 s0 v7 v11 v12 v6
  else
    mi_L_bottles_J348 k24 F I R v1 v2 v3 v4 s0 v7 v11 v12 v12
def mi_L_bottles_J303 (k24 : (Nat → Nat → Int32) → (Nat → Nat → Option Nat) → Int32 → Int32 → Int32 → Int32 → Int32 → Int32 → Int32 → Option (Int32)) (F : Nat) (I : Nat → Nat → Int32) (R : Nat → Nat → Option Nat) (v1 : Int32) (v2 : Int32) (v3 : Int32) (v4 : Int32) (v5 : Int32) (v6 : Int32) (v7 : Int32) (v11 : Int32) (s0 : Int32) : Option (Int32) :=
  mc_ob (mi_X8_bottle I R v7 12) fun r54 =>
  mc_bn ((v4 + r54)) fun x56 =>
  if s0 ≤ v6 then
    mi_L_bottles_J332 k24 F I R v1 v2 v3 x56 v6 v7 v11 s0 v5
  else
    mi_L_bottles_J332 k24 F I R v1 v2 v3 x56 v6 v7 v11 s0 v7
def mi_L_bottles_J239 (k24 : (Nat → Nat → Int32) → (Nat → Nat → Option Nat) → Int32 → Int32 → Int32 → Int32 → Int32 → Int32 → Int32 → Option (Int32)) (k211 : (Nat → Nat → Int32) → (Nat → Nat → Option Nat) → Int32 → Int32 → Int32 → Int32 → Int32 → Int32 → Int32 → Int32 → Int32 → Option (Int32)) (F : Nat) (I : Nat → Nat → Int32) (R : Nat → Nat → Option Nat) (v1 : Int32) (v2 : Int32) (v3 : Int32) (v4 : Int32) (v5 : Int32) (v6 : Int32) (v7 : Int32) (v10 : Int32) (v11 : Int32) (s0 : Int32) (s1 : Int32) : Option (Int32) :=
  if s1 = s0 then
    some 0
  else
    mc_bn ((v11 + 1)) fun x97 =>
    k211 I R v1 v2 v3 v4 v5 v6 v7 v10 x97
def mi_L_bottles_B211 (k24 : (Nat → Nat → Int32) → (Nat → Nat → Option Nat) → Int32 → Int32 → Int32 → Int32 → Int32 → Int32 → Int32 → Option (Int32)) (k211 : (Nat → Nat → Int32) → (Nat → Nat → Option Nat) → Int32 → Int32 → Int32 → Int32 → Int32 → Int32 → Int32 → Int32 → Int32 → Option (Int32)) (F : Nat) (I : Nat → Nat → Int32) (R : Nat → Nat → Option Nat) (v1 : Int32) (v2 : Int32) (v3 : Int32) (v4 : Int32) (v5 : Int32) (v6 : Int32) (v7 : Int32) (v10 : Int32) (v11 : Int32) : Option (Int32) :=
  if 13 ≤ v11 then
    if v10 = 0 then
      mc_bn ((v7 + 1)) fun x46 =>
      k24 I R v1 v2 v3 v4 v5 v6 x46
    else
      mc_ob (mi_X8_bottle I R v7 10) fun r47 =>
      mc_ob (mi_X8_bottle I R v7 11) fun r49 =>
      if r47 ≤ r49 then
        mc_ob (mi_X8_bottle I R v7 11) fun r52 =>
        mi_L_bottles_J303 k24 F I R v1 v2 v3 v4 v5 v6 v7 r47 (r52 - r47)
      else
        mc_ob (mi_X8_bottle I R v7 11) fun r91 =>
        mi_L_bottles_J303 k24 F I R v1 v2 v3 v4 v5 v6 v7 r47 (r47 - r91)
  else
    mc_ob (mi_X8_bottle I R v7 v11) fun r93 =>
    if r93 = (-1005) then
      mi_L_bottles_J239 k24 k211 F I R v1 v2 v3 v4 v5 v6 v7 v10 v11 1 v10
    else
      mi_L_bottles_J239 k24 k211 F I R v1 v2 v3 v4 v5 v6 v7 v10 v11 0 v10
def mi_L_bottles_L211 (k24 : (Nat → Nat → Int32) → (Nat → Nat → Option Nat) → Int32 → Int32 → Int32 → Int32 → Int32 → Int32 → Int32 → Option (Int32)) (F : Nat) : Nat → (Nat → Nat → Int32) → (Nat → Nat → Option Nat) → Int32 → Int32 → Int32 → Int32 → Int32 → Int32 → Int32 → Int32 → Int32 → Option (Int32)
  | 0, _, _, _, _, _, _, _, _, _, _, _ => none
  | n + 1, I, R, v1, v2, v3, v4, v5, v6, v7, v10, v11 => mi_L_bottles_B211 k24 (mi_L_bottles_L211 k24 F n) F I R v1 v2 v3 v4 v5 v6 v7 v10 v11
def mi_L_bottles_J190 (k24 : (Nat → Nat → Int32) → (Nat → Nat → Option Nat) → Int32 → Int32 → Int32 → Int32 → Int32 → Int32 → Int32 → Option (Int32)) (F : Nat) (I : Nat → Nat → Int32) (R : Nat → Nat → Option Nat) (v1 : Int32) (v2 : Int32) (v3 : Int32) (v4 : Int32) (v5 : Int32) (v6 : Int32) (v7 : Int32) (v10 : Int32) : Option (Int32) :=
  if v10 = 0 then
    mc_ob (mi_X8_bottle I R v7 5) fun r98 =>
    if r98 = 0 then
      mi_L_bottles_L211 k24 F F I R v1 v2 v3 v4 v5 v6 v7 v10 6
    else
      some 0
  else
    mi_L_bottles_L211 k24 F F I R v1 v2 v3 v4 v5 v6 v7 v10 6
def mi_L_bottles_J145 (k24 : (Nat → Nat → Int32) → (Nat → Nat → Option Nat) → Int32 → Int32 → Int32 → Int32 → Int32 → Int32 → Int32 → Option (Int32)) (F : Nat) (I : Nat → Nat → Int32) (R : Nat → Nat → Option Nat) (v1 : Int32) (v2 : Int32) (v3 : Int32) (v4 : Int32) (v5 : Int32) (v6 : Int32) (v7 : Int32) (v10 : Int32) (s0 : Int32) (s1 : Int32) : Option (Int32) :=
  if s1 = s0 then
    mc_ob (mi_X8_bottle I R v7 2) fun r33 =>
    mc_ob (mi_X8_bottle I R v7 1) fun r35 =>
    mc_ob (mi_X8_count F I R 3) fun r37 =>
    mc_ob (mi_X8_depth I r35 r37) fun r39 =>
    if r33 = r39 then
      if v10 = 0 then
        mc_ob (mi_X8_bottle I R v7 13) fun r101 =>
        if r101 = 0 then
          mi_L_bottles_J190 k24 F I R v1 v2 v3 v4 v5 v6 v7 v10
        else
          some 0
      else
        mi_L_bottles_J190 k24 F I R v1 v2 v3 v4 v5 v6 v7 v10
    else
      some 0
  else
    some 0
def mi_L_bottles_J121 (k24 : (Nat → Nat → Int32) → (Nat → Nat → Option Nat) → Int32 → Int32 → Int32 → Int32 → Int32 → Int32 → Int32 → Option (Int32)) (F : Nat) (I : Nat → Nat → Int32) (R : Nat → Nat → Option Nat) (v1 : Int32) (v2 : Int32) (v3 : Int32) (v4 : Int32) (v5 : Int32) (v6 : Int32) (v7 : Int32) (v8 : Int32) (v9 : Int32) (v10 : Int32) : Option (Int32) :=
  mc_ob (mi_X8_bottle I R v7 1) fun r29 =>
  if v9 = 0 then
    mi_L_bottles_J145 k24 F I R v1 v2 v3 v4 v5 v6 v7 v10 0 r29
  else
    mc_ob (mi_X8_count F I R 1) fun r104 =>
    mi_L_bottles_J145 k24 F I R v1 v2 v3 v4 v5 v6 v7 v10 (r104 - v8) r29
def mi_L_bottles_J98 (k24 : (Nat → Nat → Int32) → (Nat → Nat → Option Nat) → Int32 → Int32 → Int32 → Int32 → Int32 → Int32 → Int32 → Option (Int32)) (F : Nat) (I : Nat → Nat → Int32) (R : Nat → Nat → Option Nat) (v1 : Int32) (v2 : Int32) (v4 : Int32) (v5 : Int32) (v6 : Int32) (v7 : Int32) (v8 : Int32) (v9 : Int32) (v10 : Int32) (s0 : Int32) (s1 : Int32) : Option (Int32) :=
  mc_bn ((s1 + s0)) fun x27 =>
  if v7 ≤ 0 then
    mi_L_bottles_J121 k24 F I R v1 v2 x27 v4 v5 v6 v7 v8 v9 v10
  else
    mc_ob (mi_X8_bottle I R (v7 - 1) 0) fun r106 =>
    if v8 < (r106 + 5) then
      some 0
    else
      mi_L_bottles_J121 k24 F I R v1 v2 x27 v4 v5 v6 v7 v8 v9 v10
def mi_L_bottles_J85 (k24 : (Nat → Nat → Int32) → (Nat → Nat → Option Nat) → Int32 → Int32 → Int32 → Int32 → Int32 → Int32 → Int32 → Option (Int32)) (F : Nat) (I : Nat → Nat → Int32) (R : Nat → Nat → Option Nat) (v1 : Int32) (v3 : Int32) (v4 : Int32) (v5 : Int32) (v6 : Int32) (v7 : Int32) (v8 : Int32) (v9 : Int32) (v10 : Int32) (s0 : Int32) (s1 : Int32) : Option (Int32) :=
  mc_bn ((s1 + s0)) fun x25 =>
  if v10 = 0 then
    mi_L_bottles_J98 k24 F I R v1 x25 v4 v5 v6 v7 v8 v9 v10 0 v3
  else
    mi_L_bottles_J98 k24 F I R v1 x25 v4 v5 v6 v7 v8 v9 v10 1 v3
def mi_L_bottles_J72 (k24 : (Nat → Nat → Int32) → (Nat → Nat → Option Nat) → Int32 → Int32 → Int32 → Int32 → Int32 → Int32 → Int32 → Option (Int32)) (F : Nat) (I : Nat → Nat → Int32) (R : Nat → Nat → Option Nat) (v1 : Int32) (v2 : Int32) (v3 : Int32) (v4 : Int32) (v5 : Int32) (v6 : Int32) (v7 : Int32) (v8 : Int32) (v9 : Int32) (s0 : Int32) : Option (Int32) :=
  if v9 = 0 then
    mi_L_bottles_J85 k24 F I R v1 v3 v4 v5 v6 v7 v8 v9 s0 0 v2
  else
    mi_L_bottles_J85 k24 F I R v1 v3 v4 v5 v6 v7 v8 v9 s0 1 v2
def mi_L_bottles_J54 (k24 : (Nat → Nat → Int32) → (Nat → Nat → Option Nat) → Int32 → Int32 → Int32 → Int32 → Int32 → Int32 → Int32 → Option (Int32)) (F : Nat) (I : Nat → Nat → Int32) (R : Nat → Nat → Option Nat) (v1 : Int32) (v2 : Int32) (v3 : Int32) (v4 : Int32) (v5 : Int32) (v6 : Int32) (v7 : Int32) (v8 : Int32) (s0 : Int32) : Option (Int32) :=
  mc_ob (mi_X8_bottle I R v7 3) fun r21 =>
  if r21 = 1 then
    mi_L_bottles_J72 k24 F I R v1 v2 v3 v4 v5 v6 v7 v8 s0 1
  else
    mi_L_bottles_J72 k24 F I R v1 v2 v3 v4 v5 v6 v7 v8 s0 0
def mi_L_bottles_B24 (k24 : (Nat → Nat → Int32) → (Nat → Nat → Option Nat) → Int32 → Int32 → Int32 → Int32 → Int32 → Int32 → Int32 → Option (Int32)) (F : Nat) (I : Nat → Nat → Int32) (R : Nat → Nat → Option Nat) (v1 : Int32) (v2 : Int32) (v3 : Int32) (v4 : Int32) (v5 : Int32) (v6 : Int32) (v7 : Int32) : Option (Int32) :=
  if v1 ≤ v7 then
    mc_ob (mi_X8_count F I R 6) fun r4 =>
    if r4 = v2 then
      mc_ob (mi_X8_count F I R 7) fun r7 =>
      if r7 = v3 then
        mc_ob (mi_X8_count F I R 8) fun r10 =>
        if r10 = v4 then
          mc_ob (mi_X8_worst F I R) fun r13 =>
          if r13 = v5 then
            some 1
          else
            some 0
        else
          some 0
      else
        some 0
    else
      some 0
  else
    mc_ob (mi_X8_bottle I R v7 0) fun r16 =>
    mc_ob (mi_X8_count F I R 1) fun r18 =>
    if r18 ≤ r16 then
      mi_L_bottles_J54 k24 F I R v1 v2 v3 v4 v5 v6 v7 r16 0
    else
      mi_L_bottles_J54 k24 F I R v1 v2 v3 v4 v5 v6 v7 r16 1
def mi_L_bottles_L24 (F : Nat) : Nat → (Nat → Nat → Int32) → (Nat → Nat → Option Nat) → Int32 → Int32 → Int32 → Int32 → Int32 → Int32 → Int32 → Option (Int32)
  | 0, _, _, _, _, _, _, _, _, _ => none
  | n + 1, I, R, v1, v2, v3, v4, v5, v6, v7 => mi_L_bottles_B24  (mi_L_bottles_L24 F n) F I R v1 v2 v3 v4 v5 v6 v7
def mi_L_bottles (F : Nat) (I : Nat → Nat → Int32) (R : Nat → Nat → Option Nat) : Option (Int32) :=
  mc_ob (mi_X8_count F I R 5) fun r1 =>
  mi_L_bottles_L24 F F I R r1 0 0 0 (-1005) (-1) 0
def mi_L_hangs_J307 (F : Nat) (I : Nat → Nat → Int32) (R : Nat → Nat → Option Nat) (s0 : Int32) (s1 : Int32) : Option (Int32) :=
  if s1 = s0 then
    mc_ob (mi_L_bottles F I R) fun r40 =>
    if r40 = 0 then
      some 0
    else
      some 1
  else
    some 0
def mi_L_hangs_J230 (F : Nat) (I : Nat → Nat → Int32) (R : Nat → Nat → Option Nat) (v2 : Int32) (v3 : Int32) (v4 : Int32) (s0 : Int32) : Option (Int32) :=
  if s0 = 0 then
    some 0
  else
    mc_ob (mi_X8_count F I R 7) fun r20 =>
    if v3 = r20 then
      mc_ob (mi_X8_count F I R 5) fun r23 =>
      mc_ob (mi_X8_count F I R 7) fun r25 =>
      if (v2 + v4) = (r23 - r25) then
        mc_ob (mi_X8_count F I R 3) fun r28 =>
        mc_ob (mi_X8_count F I R 2) fun r30 =>
        mc_ob (mi_X8_count F I R 4) fun r32 =>
        if (r30 + (2 * r32)) ≤ 6 then
          mc_ob (mi_X8_count F I R 2) fun r35 =>
          mc_ob (mi_X8_count F I R 4) fun r37 =>
          mi_L_hangs_J307 F I R (r35 + (2 * r37)) r28
        else
          mi_L_hangs_J307 F I R 6 r28
      else
        some 0
    else
      some 0
def mi_L_hangs_B129 (k129 : (Nat → Nat → Int32) → (Nat → Nat → Option Nat) → Int32 → Int32 → Int32 → Int32 → Int32 → Option (Int32)) (F : Nat) (I : Nat → Nat → Int32) (R : Nat → Nat → Option Nat) (v1 : Int32) (v2 : Int32) (v3 : Int32) (v4 : Int32) (v5 : Int32) : Option (Int32) :=
  mc_ob (mi_X8_count F I R 5) fun r5 =>
  if r5 ≤ v5 then
    mc_ob (mi_X8_count F I R 10) fun r8 =>
    mc_ob (mi_X8_count F I R 11) fun r10 =>
    mc_ob (mi_X8_count F I R 12) fun r12 =>
    mc_ob (mi_X8_count F I R 13) fun r14 =>
    mc_ob (mi_X8_count F I R 14) fun r16 =>
    if (r8 + r10) = (((v1 + r12) + r14) + r16) then
      mc_ob (mi_X8_messenger I v1 0) fun r44 =>
      if r44 = (-1005) then
        mi_L_hangs_J230 F I R v2 v3 v4 1
      else
        mi_L_hangs_J230 F I R v2 v3 v4 0
    else
      mi_L_hangs_J230 F I R v2 v3 v4 0
  else
    mc_ob (mi_X8_bottle I R v5 3) fun r47 =>
    if r47 = 0 then
      mc_ob (mi_X8_bottle I R v5 1) fun r52 =>
      if r52 = 0 then
        mc_bn ((v4 + 1)) fun x57 =>
        mc_bn ((v5 + 1)) fun x58 =>
        k129 I R v1 v2 v3 x57 x58
      else
        mc_bn ((v4 + 0)) fun x55 =>
        mc_bn ((v5 + 1)) fun x56 =>
        k129 I R v1 v2 v3 x55 x56
    else
      mc_bn ((v4 + 0)) fun x50 =>
      mc_bn ((v5 + 1)) fun x51 =>
      k129 I R v1 v2 v3 x50 x51
def mi_L_hangs_L129 (F : Nat) : Nat → (Nat → Nat → Int32) → (Nat → Nat → Option Nat) → Int32 → Int32 → Int32 → Int32 → Int32 → Option (Int32)
  | 0, _, _, _, _, _, _, _ => none
  | n + 1, I, R, v1, v2, v3, v4, v5 => mi_L_hangs_B129  (mi_L_hangs_L129 F n) F I R v1 v2 v3 v4 v5
def mi_L_hangs_B90 (k90 : (Nat → Nat → Int32) → (Nat → Nat → Option Nat) → Int32 → Int32 → Int32 → Int32 → Option (Int32)) (F : Nat) (I : Nat → Nat → Int32) (R : Nat → Nat → Option Nat) (v1 : Int32) (v2 : Int32) (v3 : Int32) (v4 : Int32) : Option (Int32) :=
  if 10 ≤ v4 then
    mi_L_hangs_L129 F F I R v1 v2 v3 0 0
  else
    mc_ob (mi_X8_layer F I R v4 2) fun r59 =>
    mc_bn ((v2 + r59)) fun x61 =>
    mc_ob (mi_X8_layer F I R v4 3) fun r62 =>
    mc_bn ((v3 + r62)) fun x64 =>
    mc_bn ((v4 + 1)) fun x65 =>
    k90 I R v1 x61 x64 x65
def mi_L_hangs_L90 (F : Nat) : Nat → (Nat → Nat → Int32) → (Nat → Nat → Option Nat) → Int32 → Int32 → Int32 → Int32 → Option (Int32)
  | 0, _, _, _, _, _, _ => none
  | n + 1, I, R, v1, v2, v3, v4 => mi_L_hangs_B90  (mi_L_hangs_L90 F n) F I R v1 v2 v3 v4
def mi_L_hangs_J50 (k9 : (Nat → Nat → Int32) → (Nat → Nat → Option Nat) → Int32 → Int32 → Option (Int32)) (F : Nat) (I : Nat → Nat → Int32) (R : Nat → Nat → Option Nat) (v1 : Int32) (v2 : Int32) (v3 : Int32) : Option (Int32) :=
  mc_ob (mi_X8_messenger I v2 1) fun r73 =>
  mc_ob (mi_X8_count F I R 1) fun r75 =>
  mc_ob (mi_X8_count F I R 3) fun r77 =>
  mc_ob (mi_X8_depth I (r75 - v3) r77) fun r79 =>
  if r73 = r79 then
    mc_bn ((v2 + 1)) fun x82 =>
    k9 I R v1 x82
  else
    some 0
def mi_L_hangs_B9 (k9 : (Nat → Nat → Int32) → (Nat → Nat → Option Nat) → Int32 → Int32 → Option (Int32)) (F : Nat) (I : Nat → Nat → Int32) (R : Nat → Nat → Option Nat) (v1 : Int32) (v2 : Int32) : Option (Int32) :=
  if v1 ≤ v2 then
    mi_L_hangs_L90 F F I R v1 0 0 0
  else
    mc_ob (mi_X8_messenger I v2 0) fun r66 =>
    if r66 < 0 then
      some 0
    else
      mc_ob (mi_X8_count F I R 1) fun r69 =>
      if r69 < r66 then
        some 0
      else
        if v2 ≤ 0 then
          mi_L_hangs_J50 k9 F I R v1 v2 r66
        else
          mc_ob (mi_X8_messenger I (v2 - 1) 0) fun r83 =>
          if r66 < r83 then
            some 0
          else
            mi_L_hangs_J50 k9 F I R v1 v2 r66
def mi_L_hangs_L9 (F : Nat) : Nat → (Nat → Nat → Int32) → (Nat → Nat → Option Nat) → Int32 → Int32 → Option (Int32)
  | 0, _, _, _, _ => none
  | n + 1, I, R, v1, v2 => mi_L_hangs_B9  (mi_L_hangs_L9 F n) F I R v1 v2
def mi_L_hangs (F : Nat) (I : Nat → Nat → Int32) (R : Nat → Nat → Option Nat) : Option (Int32) :=
  mc_ob (mi_X8_count F I R 9) fun r1 =>
  mi_L_hangs_L9 F F I R r1 0
def mi_L_print_B105 (k105 : (Nat → Nat → Int32) → (Nat → Nat → Option Nat) → Int64 → Int32 → Option (Int64)) (F : Nat) (I : Nat → Nat → Int32) (R : Nat → Nat → Option Nat) (v1 : Int64) (v3 : Int32) : Option (Int64) :=
  if 20 ≤ v3 then
    some v1
  else
    mc_ob (mi_X8_layer F I R (v3 / 2) (v3 - v3 / 2 * 2)) fun r10 =>
    mc_bn ((((31 : Int64) * v1) + (r10.toInt64))) fun x12 =>
    mc_bn ((v3 + 1)) fun x13 =>
    k105 I R x12 x13
def mi_L_print_L105 (F : Nat) : Nat → (Nat → Nat → Int32) → (Nat → Nat → Option Nat) → Int64 → Int32 → Option (Int64)
  | 0, _, _, _, _ => none
  | n + 1, I, R, v1, v3 => mi_L_print_B105  (mi_L_print_L105 F n) F I R v1 v3
def mi_L_print_B73 (k73 : (Nat → Nat → Int32) → (Nat → Nat → Option Nat) → Int64 → Int32 → Option (Int64)) (F : Nat) (I : Nat → Nat → Int32) (R : Nat → Nat → Option Nat) (v1 : Int64) (v3 : Int32) : Option (Int64) :=
  mc_ob (mi_X8_count F I R 9) fun r6 =>
  if r6 ≤ v3 then
    mi_L_print_L105 F F I R v1 0
  else
    mc_ob (mi_X8_messenger I v3 0) fun r14 =>
    mc_bn ((((31 : Int64) * v1) + (r14.toInt64))) fun x16 =>
    mc_bn ((v3 + 1)) fun x17 =>
    k73 I R x16 x17
def mi_L_print_L73 (F : Nat) : Nat → (Nat → Nat → Int32) → (Nat → Nat → Option Nat) → Int64 → Int32 → Option (Int64)
  | 0, _, _, _, _ => none
  | n + 1, I, R, v1, v3 => mi_L_print_B73  (mi_L_print_L73 F n) F I R v1 v3
def mi_L_print_B33 (k33 : (Nat → Nat → Int32) → (Nat → Nat → Option Nat) → Int64 → Int32 → Option (Int64)) (F : Nat) (I : Nat → Nat → Int32) (R : Nat → Nat → Option Nat) (v1 : Int64) (v3 : Int32) : Option (Int64) :=
  mc_ob (mi_X8_count F I R 5) fun r3 =>
  if (14 * r3) ≤ v3 then
    mi_L_print_L73 F F I R v1 0
  else
    mc_ob (mi_X8_bottle I R (v3 / 14) (v3 - v3 / 14 * 14)) fun r18 =>
    mc_bn ((((31 : Int64) * v1) + (r18.toInt64))) fun x20 =>
    mc_bn ((v3 + 1)) fun x21 =>
    k33 I R x20 x21
def mi_L_print_L33 (F : Nat) : Nat → (Nat → Nat → Int32) → (Nat → Nat → Option Nat) → Int64 → Int32 → Option (Int64)
  | 0, _, _, _, _ => none
  | n + 1, I, R, v1, v3 => mi_L_print_B33  (mi_L_print_L33 F n) F I R v1 v3
def mi_L_print_B6 (k6 : (Nat → Nat → Int32) → (Nat → Nat → Option Nat) → Int64 → Int32 → Option (Int64)) (F : Nat) (I : Nat → Nat → Int32) (R : Nat → Nat → Option Nat) (v1 : Int64) (v3 : Int32) : Option (Int64) :=
  if 17 ≤ v3 then
    mi_L_print_L33 F F I R v1 0
  else
    mc_ob (mi_X8_count F I R v3) fun r22 =>
    mc_bn ((((31 : Int64) * v1) + (r22.toInt64))) fun x24 =>
    mc_bn ((v3 + 1)) fun x25 =>
    k6 I R x24 x25
def mi_L_print_L6 (F : Nat) : Nat → (Nat → Nat → Int32) → (Nat → Nat → Option Nat) → Int64 → Int32 → Option (Int64)
  | 0, _, _, _, _ => none
  | n + 1, I, R, v1, v3 => mi_L_print_B6  (mi_L_print_L6 F n) F I R v1 v3
def mi_L_print (F : Nat) (I : Nat → Nat → Int32) (R : Nat → Nat → Option Nat) : Option (Int64) :=
  mc_bn ((13 : Int64)) fun x1 =>
  mi_L_print_L6 F F I R x1 0
def mi_L_shuts_J335 (F : Nat) (I : Nat → Nat → Int32) (R : Nat → Nat → Option Nat) (v7 : Int64) (s0 : Int32) : Option ((Nat → Nat → Int32) × (Nat → Nat → Option Nat) × Int32) :=
  if s0 = 0 then
    some (I, R, 0)
  else
    mc_ob2 (mi_X8_undo F I R) fun I16 r17 =>
    if r17 < 0 then
      some (I16, R, 0)
    else
      mc_ob (mi_L_print F I16 R) fun r20 =>
      if (lg_cmp r20 v7) = 0 then
        some (I16, R, 1)
      else
        some (I16, R, 0)
def mi_L_shuts_J320 (F : Nat) (I : Nat → Nat → Int32) (R : Nat → Nat → Option Nat) (v7 : Int64) (s0 : Int32) (s1 : Int32) : Option ((Nat → Nat → Int32) × (Nat → Nat → Option Nat) × Int32) :=
  if s1 = s0 then
    mc_ob (mi_L_hangs F I R) fun r30 =>
    if r30 = 0 then
      mi_L_shuts_J335 F I R v7 0
    else
      mi_L_shuts_J335 F I R v7 1
  else
    mi_L_shuts_J335 F I R v7 0
def mi_L_shuts_J293 (F : Nat) (I : Nat → Nat → Int32) (R : Nat → Nat → Option Nat) (v1 : Int32) (v3 : Int32) (v7 : Int64) : Option ((Nat → Nat → Int32) × (Nat → Nat → Option Nat) × Int32) :=
  mc_ob2 (mi_X8_quietIn F I R) fun I24 r25 =>
  if v3 = (-1005) then
    mi_L_shuts_J320 F I24 R v7 v3 r25
  else
    if v3 ≤ v1 then
      mi_L_shuts_J320 F I24 R v7 0 r25
    else
      mi_L_shuts_J320 F I24 R v7 (v3 - v1) r25
def mi_L_shuts_J182 (k25 : (Nat → Nat → Int32) → (Nat → Nat → Option Nat) → Int32 → Int32 → Int32 → Int32 → Int32 → Int32 → Int32 → (Option ((Nat → Nat → Int32) × (Nat → Nat → Option Nat) × Int32))) (F : Nat) (I : Nat → Nat → Int32) (R : Nat → Nat → Option Nat) (v1 : Int32) (v2 : Int32) (v3 : Int32) (v4 : Int32) (v6 : Int32) (v7 : Int32) (v8 : Int32) (s0 : Int32) : Option ((Nat → Nat → Int32) × (Nat → Nat → Option Nat) × Int32) :=
  if s0 = v7 then
    mc_ob (mi_X8_count F I R 0) fun r66 =>
    mc_bn ((r66 + v8)) fun x68 =>
    mc_bn ((v7 + 1)) fun x69 =>
    k25 I R v1 v2 v3 v4 s0 x68 x69
  else
    mc_bn ((v7 + 1)) fun x65 =>
    k25 I R v1 v2 v3 v4 s0 v6 x65
def mi_L_shuts_J161 (k25 : (Nat → Nat → Int32) → (Nat → Nat → Option Nat) → Int32 → Int32 → Int32 → Int32 → Int32 → Int32 → Int32 → (Option ((Nat → Nat → Int32) × (Nat → Nat → Option Nat) × Int32))) (F : Nat) (I : Nat → Nat → Int32) (R : Nat → Nat → Option Nat) (v1 : Int32) (v2 : Int32) (v3 : Int32) (v5 : Int32) (v6 : Int32) (v7 : Int32) (v8 : Int32) (v9 : Int32) (s0 : Int32) (s1 : Int32) : Option ((Nat → Nat → Int32) × (Nat → Nat → Option Nat) × Int32) :=
  mc_bn ((s1 + s0)) fun x62 =>
  if v9 = 0 then
    if v1 < v8 then
      mi_L_shuts_J182 k25 F I R v1 v2 v3 x62 v6 v7 v8 v5
    else
      mi_L_shuts_J182 k25 F I R v1 v2 v3 x62 v6 v7 v8 v7
  else
    mi_L_shuts_J182 k25 F I R v1 v2 v3 x62 v6 v7 v8 v5
def mi_L_shuts_J138 (k25 : (Nat → Nat → Int32) → (Nat → Nat → Option Nat) → Int32 → Int32 → Int32 → Int32 → Int32 → Int32 → Int32 → (Option ((Nat → Nat → Int32) × (Nat → Nat → Option Nat) × Int32))) (F : Nat) (I : Nat → Nat → Int32) (R : Nat → Nat → Option Nat) (v1 : Int32) (v2 : Int32) (v3 : Int32) (v4 : Int32) (v5 : Int32) (v6 : Int32) (v7 : Int32) (v8 : Int32) (v9 : Int32) (s0 : Int32) (s1 : Int32) : Option ((Nat → Nat → Int32) × (Nat → Nat → Option Nat) × Int32) :=
  if s1 = s0 then
    if v9 = 0 then
      if v1 < v8 then
        mi_L_shuts_J161 k25 F I R v1 v2 v3 v5 v6 v7 v8 v9 0 v4
      else
        mi_L_shuts_J161 k25 F I R v1 v2 v3 v5 v6 v7 v8 v9 1 v4
    else
      mi_L_shuts_J161 k25 F I R v1 v2 v3 v5 v6 v7 v8 v9 0 v4
  else
    some (I, R, 0)
def mi_L_shuts_J122 (k25 : (Nat → Nat → Int32) → (Nat → Nat → Option Nat) → Int32 → Int32 → Int32 → Int32 → Int32 → Int32 → Int32 → (Option ((Nat → Nat → Int32) × (Nat → Nat → Option Nat) × Int32))) (F : Nat) (I : Nat → Nat → Int32) (R : Nat → Nat → Option Nat) (v1 : Int32) (v2 : Int32) (v3 : Int32) (v4 : Int32) (v5 : Int32) (v6 : Int32) (v7 : Int32) (v8 : Int32) (v9 : Int32) (s0 : Int32) : Option ((Nat → Nat → Int32) × (Nat → Nat → Option Nat) × Int32) :=
  mc_ob (mi_X8_bottle I R v7 3) fun r57 =>
  if r57 = 1 then
    mi_L_shuts_J138 k25 F I R v1 v2 v3 v4 v5 v6 v7 v8 v9 1 s0
  else
    mi_L_shuts_J138 k25 F I R v1 v2 v3 v4 v5 v6 v7 v8 v9 0 s0
def mi_L_shuts_J111 (k25 : (Nat → Nat → Int32) → (Nat → Nat → Option Nat) → Int32 → Int32 → Int32 → Int32 → Int32 → Int32 → Int32 → (Option ((Nat → Nat → Int32) × (Nat → Nat → Option Nat) × Int32))) (F : Nat) (I : Nat → Nat → Int32) (R : Nat → Nat → Option Nat) (v1 : Int32) (v2 : Int32) (v3 : Int32) (v4 : Int32) (v5 : Int32) (v6 : Int32) (v7 : Int32) (v8 : Int32) (v9 : Int32) : Option ((Nat → Nat → Int32) × (Nat → Nat → Option Nat) × Int32) :=
  if v9 = 1 then
    mi_L_shuts_J122 k25 F I R v1 v2 v3 v4 v5 v6 v7 v8 v9 1
  else
    mi_L_shuts_J122 k25 F I R v1 v2 v3 v4 v5 v6 v7 v8 v9 0
def mi_L_shuts_J70 (k25 : (Nat → Nat → Int32) → (Nat → Nat → Option Nat) → Int32 → Int32 → Int32 → Int32 → Int32 → Int32 → Int32 → (Option ((Nat → Nat → Int32) × (Nat → Nat → Option Nat) × Int32))) (F : Nat) (I : Nat → Nat → Int32) (R : Nat → Nat → Option Nat) (v1 : Int32) (v2 : Int32) (v3 : Int32) (v4 : Int32) (v5 : Int32) (v6 : Int32) (v7 : Int32) (v8 : Int32) (v9 : Int32) (s0 : Int32) (s1 : Int32) : Option ((Nat → Nat → Int32) × (Nat → Nat → Option Nat) × Int32) :=
  if s1 = s0 then
    if v9 < 0 then
      some (I, R, 0)
    else
      if 5 < v9 then
        some (I, R, 0)
      else
        if v8 = (-1005) then
          mi_L_shuts_J111 k25 F I R v1 v2 v3 v4 v5 v6 v7 v8 v9
        else
          if v8 < 1 then
            some (I, R, 0)
          else
            if v3 = (-1005) then
              some (I, R, 0)
            else
              if v3 < v8 then
                some (I, R, 0)
              else
                mi_L_shuts_J111 k25 F I R v1 v2 v3 v4 v5 v6 v7 v8 v9
  else
    some (I, R, 0)
def mi_L_shuts_J57 (k25 : (Nat → Nat → Int32) → (Nat → Nat → Option Nat) → Int32 → Int32 → Int32 → Int32 → Int32 → Int32 → Int32 → (Option ((Nat → Nat → Int32) × (Nat → Nat → Option Nat) × Int32))) (F : Nat) (I : Nat → Nat → Int32) (R : Nat → Nat → Option Nat) (v1 : Int32) (v2 : Int32) (v3 : Int32) (v4 : Int32) (v5 : Int32) (v6 : Int32) (v7 : Int32) (v8 : Int32) (v9 : Int32) (s0 : Int32) : Option ((Nat → Nat → Int32) × (Nat → Nat → Option Nat) × Int32) :=
  if v8 = (-1005) then
    mi_L_shuts_J70 k25 F I R v1 v2 v3 v4 v5 v6 v7 v8 v9 0 s0
  else
    mi_L_shuts_J70 k25 F I R v1 v2 v3 v4 v5 v6 v7 v8 v9 1 s0
def mi_L_shuts_B25 (k25 : (Nat → Nat → Int32) → (Nat → Nat → Option Nat) → Int32 → Int32 → Int32 → Int32 → Int32 → Int32 → Int32 → (Option ((Nat → Nat → Int32) × (Nat → Nat → Option Nat) × Int32))) (F : Nat) (I : Nat → Nat → Int32) (R : Nat → Nat → Option Nat) (v1 : Int32) (v2 : Int32) (v3 : Int32) (v4 : Int32) (v5 : Int32) (v6 : Int32) (v7 : Int32) : Option ((Nat → Nat → Int32) × (Nat → Nat → Option Nat) × Int32) :=
  if v2 ≤ v7 then
    mc_ob (mi_L_print F I R) fun r7 =>
    mc_ob3 (mi_X8_pass F I R v1) fun I9 R10 r11 =>
    if 0 ≤ r11 then
      if r11 = v4 then
        if v5 = (-1005) then
          mi_L_shuts_J293 F I9 R10 v1 v3 r7
        else
          mc_ob (mi_X8_bottle I9 R10 v5 6) fun r34 =>
          if r34 = v6 then
            mc_ob (mi_X8_bottle I9 R10 v5 13) fun r37 =>
            if r37 = 0 then
              mi_L_shuts_J293 F I9 R10 v1 v3 r7
            else
              mi_L_shuts_J335 F I9 R10 r7 0
          else
            mi_L_shuts_J335 F I9 R10 r7 0
      else
        mi_L_shuts_J335 F I9 R10 r7 0
    else
      if r11 = (-1003) then
        mc_ob (mi_L_print F I9 R10) fun r41 =>
        if (lg_cmp r41 r7) = 0 then
          some (I9, R10, 1)
        else
          some (I9, R10, 0)
      else
        some (I9, R10, 0)
  else
    mc_ob2 (mi_X8_shutIn F I R v7) fun I44 r45 =>
    mc_ob2 (mi_X8_reason F I44 R v7) fun I47 r48 =>
    if r48 = 0 then
      mi_L_shuts_J57 k25 F I47 R v1 v2 v3 v4 v5 v6 v7 r45 r48 1
    else
      mi_L_shuts_J57 k25 F I47 R v1 v2 v3 v4 v5 v6 v7 r45 r48 0
def mi_L_shuts_L25 (F : Nat) : Nat → (Nat → Nat → Int32) → (Nat → Nat → Option Nat) → Int32 → Int32 → Int32 → Int32 → Int32 → Int32 → Int32 → (Option ((Nat → Nat → Int32) × (Nat → Nat → Option Nat) × Int32))
  | 0, _, _, _, _, _, _, _, _, _ => none
  | n + 1, I, R, v1, v2, v3, v4, v5, v6, v7 => mi_L_shuts_B25  (mi_L_shuts_L25 F n) F I R v1 v2 v3 v4 v5 v6 v7
def mi_L_shuts (F : Nat) (I : Nat → Nat → Int32) (R : Nat → Nat → Option Nat) (v1 : Int32) : Option ((Nat → Nat → Int32) × (Nat → Nat → Option Nat) × Int32) :=
  mc_ob (mi_X8_count F I R 5) fun r1 =>
  mc_ob2 (mi_X8_quietIn F I R) fun I3 r4 =>
  mi_L_shuts_L25 F F I3 R v1 r1 r4 0 (-1005) 0 0
def mi_L_jerks_J290 (F : Nat) (I : Nat → Nat → Int32) (R : Nat → Nat → Option Nat) (v2 : Int64) (s0 : Int32) : Option ((Nat → Nat → Int32) × (Nat → Nat → Option Nat) × Int32) :=
  if s0 = 0 then
    some (I, R, 0)
  else
    mc_ob (mi_L_hangs F I R) fun r26 =>
    if r26 = 0 then
      some (I, R, 0)
    else
      mc_ob2 (mi_X8_undo F I R) fun I30 r31 =>
      if r31 < 0 then
        some (I30, R, 0)
      else
        mc_ob (mi_L_print F I30 R) fun r34 =>
        if (lg_cmp r34 v2) = 0 then
          some (I30, R, 1)
        else
          some (I30, R, 0)
def mi_L_jerks_J227 (F : Nat) (I : Nat → Nat → Int32) (R : Nat → Nat → Option Nat) (v2 : Int64) (v4 : Int32) (v5 : Int32) (v6 : Int32) (s0 : Int32) (s1 : Int32) (s2 : Int32) : Option ((Nat → Nat → Int32) × (Nat → Nat → Option Nat) × Int32) :=
  if s2 = (s1 + s0) then
    if v6 = 0 then
      mi_L_jerks_J290 F I R v2 1
    else
      mc_ob (mi_X8_bottle I R v4 13) fun r48 =>
      if r48 = 1 then
        mc_ob (mi_X8_bottle I R v4 11) fun r51 =>
        mc_ob (mi_X8_bottle I R v4 0) fun r53 =>
        if r51 = (v5 - r53) then
          mc_ob (mi_X8_bottle I R v4 6) fun r56 =>
          mc_ob (mi_X8_count F I R 0) fun r58 =>
          if r56 = r58 then
            mi_L_jerks_J290 F I R v2 1
          else
            mi_L_jerks_J290 F I R v2 0
        else
          mi_L_jerks_J290 F I R v2 0
      else
        mi_L_jerks_J290 F I R v2 0
  else
    mi_L_jerks_J290 F I R v2 0
def mi_L_jerks_J104 (F : Nat) (I : Nat → Nat → Int32) (R : Nat → Nat → Option Nat) (v1 : Int32) (v2 : Int64) (v4 : Int32) (v5 : Int32) (s0 : Int32) : Option ((Nat → Nat → Int32) × (Nat → Nat → Option Nat) × Int32) :=
  mc_ob (mi_X8_count F I R 7) fun r11 =>
  mc_ob (mi_X8_count F I R 11) fun r13 =>
  mc_ob (mi_X8_count F I R 9) fun r15 =>
  mc_ob3 (mi_X8_pay F I R v1) fun I17 R18 r19 =>
  if 0 ≤ r19 then
    mc_ob (mi_X8_count F I17 R18 1) fun r22 =>
    if r22 = v5 then
      mc_ob (mi_X8_count F I17 R18 9) fun r37 =>
      if r37 = (r15 - r19) then
        mc_ob (mi_X8_count F I17 R18 11) fun r40 =>
        if r40 = r13 then
          mc_ob (mi_X8_count F I17 R18 7) fun r43 =>
          if s0 = 0 then
            mi_L_jerks_J227 F I17 R18 v2 v4 v5 s0 0 r11 r43
          else
            mi_L_jerks_J227 F I17 R18 v2 v4 v5 s0 1 r11 r43
        else
          mi_L_jerks_J290 F I17 R18 v2 0
      else
        mi_L_jerks_J290 F I17 R18 v2 0
    else
      mi_L_jerks_J290 F I17 R18 v2 0
  else
    mc_ob (mi_L_print F I17 R18) fun r61 =>
    if (lg_cmp r61 v2) = 0 then
      if v1 = 0 then
        some (I17, R18, 1)
      else
        if v5 < 0 then
          some (I17, R18, 1)
        else
          if v5 ≤ 999 then
            some (I17, R18, 0)
          else
            some (I17, R18, 1)
    else
      some (I17, R18, 0)
def mi_L_jerks_B28 (k28 : (Nat → Nat → Int32) → (Nat → Nat → Option Nat) → Int32 → Int64 → Int32 → Int32 → Int32 → (Option ((Nat → Nat → Int32) × (Nat → Nat → Option Nat) × Int32))) (F : Nat) (I : Nat → Nat → Int32) (R : Nat → Nat → Option Nat) (v1 : Int32) (v2 : Int64) (v4 : Int32) (v5 : Int32) (v6 : Int32) : Option ((Nat → Nat → Int32) × (Nat → Nat → Option Nat) × Int32) :=
  if v6 < 0 then
    if v4 = (-1005) then
      mi_L_jerks_J104 F I R v1 v2 v4 v5 0
    else
      mc_ob (mi_X8_count F I R 16) fun r67 =>
      if r67 < v1 then
        mi_L_jerks_J104 F I R v1 v2 v4 v5 1
      else
        mc_ob (mi_X8_count F I R 16) fun r70 =>
        if (-v1) ≤ r70 then
          mi_L_jerks_J104 F I R v1 v2 v4 v5 0
        else
          mi_L_jerks_J104 F I R v1 v2 v4 v5 1
  else
    mc_ob (mi_X8_bottle I R v6 0) fun r73 =>
    if v5 ≤ r73 then
      mc_bn ((v6 + (-1))) fun x76 =>
      k28 I R v1 v2 v4 v5 x76
    else
      mc_ob (mi_X8_bottle I R v6 3) fun r77 =>
      if r77 = 0 then
        mc_bn ((v6 + (-1))) fun x81 =>
        k28 I R v1 v2 v6 v5 x81
      else
        mc_bn ((v6 + (-1))) fun x80 =>
        k28 I R v1 v2 v4 v5 x80
def mi_L_jerks_L28 (F : Nat) : Nat → (Nat → Nat → Int32) → (Nat → Nat → Option Nat) → Int32 → Int64 → Int32 → Int32 → Int32 → (Option ((Nat → Nat → Int32) × (Nat → Nat → Option Nat) × Int32))
  | 0, _, _, _, _, _, _, _ => none
  | n + 1, I, R, v1, v2, v4, v5, v6 => mi_L_jerks_B28  (mi_L_jerks_L28 F n) F I R v1 v2 v4 v5 v6
def mi_L_jerks (F : Nat) (I : Nat → Nat → Int32) (R : Nat → Nat → Option Nat) (v1 : Int32) : Option ((Nat → Nat → Int32) × (Nat → Nat → Option Nat) × Int32) :=
  mc_ob (mi_L_print F I R) fun r1 =>
  mc_ob (mi_X8_count F I R 1) fun r3 =>
  mc_bn ((r3 + v1)) fun x5 =>
  mc_ob (mi_X8_count F I R 5) fun r6 =>
  mc_bn ((r6 - 1)) fun x8 =>
  mi_L_jerks_L28 F F I R v1 r1 (-1005) x5 x8
def mi_L_act (F : Nat) (I : Nat → Nat → Int32) (R : Nat → Nat → Option Nat) (v1 : Int32) (v2 : Int32) : Option ((Nat → Nat → Int32) × (Nat → Nat → Option Nat) × Int32) :=
  mc_ob (mi_L_low v1 15) fun r1 =>
  if r1 = 0 then
    mc_ob (mi_L_low v2 6) fun r4 =>
    if r4 = 0 then
      mc_ob (mi_L_low (v2 >>> (3 &&& 31)) 900) fun r13 =>
      mc_ob3 (mi_X8_pay F I R (r13 - 400)) fun I15 R16 r17 =>
      some (I15, R16, r17)
    else
      mc_ob (mi_L_low (v2 >>> (3 &&& 31)) 170) fun r7 =>
      mc_ob3 (mi_X8_pay F I R (r7 - 40)) fun I9 R10 r11 =>
      some (I9, R10, r11)
  else
    if r1 = 1 then
      mc_ob (mi_L_low v2 6) fun r20 =>
      if r20 = 0 then
        mc_ob (mi_L_low (v2 >>> (3 &&& 31)) 900) fun r29 =>
        mc_ob3 (mi_X8_pay F I R (r29 - 400)) fun I31 R32 r33 =>
        some (I31, R32, r33)
      else
        mc_ob (mi_L_low (v2 >>> (3 &&& 31)) 170) fun r23 =>
        mc_ob3 (mi_X8_pay F I R (r23 - 40)) fun I25 R26 r27 =>
        some (I25, R26, r27)
    else
      if r1 = 2 then
        mc_ob (mi_L_low v2 6) fun r36 =>
        if r36 = 0 then
          mc_ob (mi_L_low (v2 >>> (3 &&& 31)) 900) fun r45 =>
          mc_ob3 (mi_X8_pay F I R (r45 - 400)) fun I47 R48 r49 =>
          some (I47, R48, r49)
        else
          mc_ob (mi_L_low (v2 >>> (3 &&& 31)) 170) fun r39 =>
          mc_ob3 (mi_X8_pay F I R (r39 - 40)) fun I41 R42 r43 =>
          some (I41, R42, r43)
      else
        if r1 = 3 then
          mc_ob (mi_L_low v2 3) fun r52 =>
          if r52 ≤ 0 then
            mc_ob3 (mi_X8_clamp F I R 0) fun I55 R56 r57 =>
            some (I55, R56, r57)
          else
            mc_ob3 (mi_X8_clamp F I R 1) fun I59 R60 r61 =>
            some (I59, R60, r61)
        else
          if r1 = 4 then
            mc_ob (mi_L_low v2 3) fun r64 =>
            if r64 ≤ 0 then
              mc_ob3 (mi_X8_clamp F I R 0) fun I67 R68 r69 =>
              some (I67, R68, r69)
            else
              mc_ob3 (mi_X8_clamp F I R 1) fun I71 R72 r73 =>
              some (I71, R72, r73)
          else
            if r1 = 5 then
              mc_ob (mi_L_low v2 3) fun r76 =>
              if r76 ≤ 0 then
                mc_ob3 (mi_X8_clamp F I R 0) fun I79 R80 r81 =>
                some (I79, R80, r81)
              else
                mc_ob3 (mi_X8_clamp F I R 1) fun I83 R84 r85 =>
                some (I83, R84, r85)
            else
              if r1 = 6 then
                mc_ob (mi_L_low v2 3) fun r88 =>
                if r88 ≤ 0 then
                  mc_ob3 (mi_X8_clamp F I R 0) fun I91 R92 r93 =>
                  some (I91, R92, r93)
                else
                  mc_ob3 (mi_X8_clamp F I R 1) fun I95 R96 r97 =>
                  some (I95, R96, r97)
              else
                if r1 = 7 then
                  mc_ob3 (mi_X8_send F I R) fun I100 R101 r102 =>
                  some (I100, R101, r102)
                else
                  if r1 = 8 then
                    mc_ob3 (mi_X8_send F I R) fun I105 R106 r107 =>
                    some (I105, R106, r107)
                  else
                    if r1 = 9 then
                      mc_ob3 (mi_X8_send F I R) fun I110 R111 r112 =>
                      some (I110, R111, r112)
                    else
                      if r1 = 10 then
                        mc_ob (mi_L_low v2 7) fun r115 =>
                        mc_ob3 (mi_X8_setSlope F I R r115) fun I117 R118 r119 =>
                        some (I117, R118, r119)
                      else
                        if r1 = 11 then
                          mc_ob (mi_L_low (v1 >>> (4 &&& 31)) 2) fun r122 =>
                          if r122 = 0 then
                            mc_ob (mi_L_low v2 2) fun r131 =>
                            if r131 = 0 then
                              mc_ob3 (mi_X8_weight F I R 1) fun I138 R139 r140 =>
                              some (I138, R139, r140)
                            else
                              mc_ob3 (mi_X8_weight F I R 0) fun I134 R135 r136 =>
                              some (I134, R135, r136)
                          else
                            mc_ob (mi_L_low v2 4) fun r125 =>
                            mc_ob3 (mi_X8_takeOff F I R r125) fun I127 R128 r129 =>
                            some (I127, R128, r129)
                        else
                          if r1 = 12 then
                            mc_ob (mi_L_low (v1 >>> (4 &&& 31)) 2) fun r143 =>
                            if r143 = 0 then
                              mc_ob (mi_L_low v2 11) fun r154 =>
                              mc_ob (mi_L_low (v2 >>> (4 &&& 31)) 310) fun r156 =>
                              mc_ob (mi_L_low (v2 >>> (5 &&& 31)) 421) fun r158 =>
                              mc_ob3 (mi_X8_setWater F I R r154 (r156 - 20) r158) fun I160 R161 r162 =>
                              some (I160, R161, r162)
                            else
                              mc_ob (mi_L_low (v1 >>> (5 &&& 31)) 3) fun r146 =>
                              mc_ob (mi_L_low v2 90) fun r148 =>
                              mc_ob3 (mi_X8_set F I R r146 r148) fun I150 R151 r152 =>
                              some (I150, R151, r152)
                          else
                            mc_ob (mi_L_low v2 30) fun r164 =>
                            mc_ob3 (mi_X8_pass F I R (1 + r164)) fun I166 R167 r168 =>
                            some (I166, R167, r168)

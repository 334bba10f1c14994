-- mirrors of the class (by wip/p28/gen/gen_parts.py)
def mi_X0_clampAt (I : Nat → Nat → Int32) (v0 : Nat) (v1 : Int32) (v2 : Int32) : Option ((Nat → Nat → Int32)) :=
  mc_bn (mc_u I v0 0 v1) fun I1 =>
  if (v2 ≠ 0 ∧ v2 ≠ 1) then none else
  mc_bn (mc_u I1 v0 1 v2) fun I2 =>
  mc_bn (mc_u I2 v0 2 0) fun I4 =>
  mc_bn (mc_u I4 v0 3 0) fun I5 =>
  mc_bn (mc_u I5 v0 4 0) fun I6 =>
  some I6
def mi_X0_copyFrom (I : Nat → Nat → Int32) (v0 : Nat) (v1 : Nat) : Option ((Nat → Nat → Int32)) :=
  mc_bn (mc_u I v0 0 (I v1 0)) fun I1 =>
  if ((I1 v1 1) ≠ 0 ∧ (I1 v1 1) ≠ 1) then none else
  mc_bn (mc_u I1 v0 1 (I1 v1 1)) fun I2 =>
  mc_bn (mc_u I2 v0 2 (I2 v1 2)) fun I4 =>
  if ((I4 v1 3) ≠ 0 ∧ (I4 v1 3) ≠ 1) then none else
  mc_bn (mc_u I4 v0 3 (I4 v1 3)) fun I5 =>
  if ((I5 v1 4) ≠ 0 ∧ (I5 v1 4) ≠ 1) then none else
  mc_bn (mc_u I5 v0 4 (I5 v1 4)) fun I7 =>
  mc_bn (mc_u I7 v0 5 (I7 v1 5)) fun I9 =>
  mc_bn (mc_u I9 v0 6 (I9 v1 6)) fun I10 =>
  mc_bn (mc_u I10 v0 7 (I10 v1 7)) fun I11 =>
  mc_bn (mc_u I11 v0 8 (I11 v1 8)) fun I12 =>
  mc_bn (mc_u I12 v0 9 (I12 v1 9)) fun I13 =>
  mc_bn (mc_u I13 v0 10 (I13 v1 10)) fun I14 =>
  some I14
def mi_X0_depthByPair (I : Nat → Nat → Int32) (v0 : Nat) : Int32 :=
  (((I v0 9) - (I v0 8)) * 10)
def mi_X0_difference (I : Nat → Nat → Int32) (v0 : Nat) : Int32 :=
  (mc_abs ((mi_X0_depthByPair I v0) - (I v0 6)))
def mi_X1_copyFrom (I : Nat → Nat → Int32) (v0 : Nat) (v1 : Nat) : Option ((Nat → Nat → Int32)) :=
  mc_bn (mc_u I v0 0 (I v1 0)) fun I1 =>
  mc_bn (mc_u I1 v0 1 (I1 v1 1)) fun I2 =>
  if ((I2 v1 2) ≠ 0 ∧ (I2 v1 2) ≠ 1) then none else
  mc_bn (mc_u I2 v0 2 (I2 v1 2)) fun I3 =>
  some I3
def mi_X1_countedSlope (I : Nat → Nat → Int32) (v0 : Nat) : Int32 :=
  if (I v0 2) = 0 then
    (I v0 1)
  else
    (mc_min 6 ((I v0 1) + 2))
def mi_X1_isSticking (I : Nat → Nat → Int32) (v0 : Nat) : Int32 :=
  if (mi_X1_countedSlope I v0) < 6 then
    0
  else
    1
def mi_X1_step (I : Nat → Nat → Int32) (v0 : Nat) : Int32 :=
  (mc_max 1 (5 - (mi_X1_countedSlope I v0)))
def mi_X1_isInWater (I : Nat → Nat → Int32) (v0 : Nat) (v1 : Int32) : Int32 :=
  if (I v0 0) ≤ v1 then
    0
  else
    1
def mi_X1_metreOf (I : Nat → Nat → Int32) (v0 : Nat) (v1 : Int32) : Int32 :=
  if (mi_X1_isInWater I v0 v1) = 0 then
    0
  else
    ((I v0 0) - v1)
def mi_X8_depthAt (I : Nat → Nat → Int32) (v0 : Int32) (v1 : Int32) : Option (Int32) :=
  if v1 < 0 then
    some 0
  else
    if v1 < 7 then
      if (v1 < 0 ∨ 7 ≤ v1.toNatClampNeg) then none else
      some ((v0 * (mc_d v1.toNatClampNeg)) / 1000)
    else
      some 0
def mi_X1_depthOf (I : Nat → Nat → Int32) (v0 : Nat) (v1 : Int32) : Option (Int32) :=
  mc_ob (mi_X8_depthAt I (mi_X1_metreOf I v0 v1) (mi_X1_countedSlope I v0)) fun r3 =>
  some r3
def mi_X3_dropOldest_B9 (k9 : (Nat → Nat → Int32) → (Nat → Nat → Option Nat) → Option Nat → Int32 → (Option ((Nat → Nat → Int32) × (Nat → Nat → Option Nat)))) (F : Nat) (I : Nat → Nat → Int32) (R : Nat → Nat → Option Nat) (v1 : Option Nat) (v2 : Int32) : Option ((Nat → Nat → Int32) × (Nat → Nat → Option Nat)) :=
  if 3 ≤ v2 then
    if ((3 : Int32) < 0 ∨ 4 ≤ (3 : Int32).toNatClampNeg) then none else
    mc_bn (mc_u R 146 (3 : Int32).toNatClampNeg v1) fun R5 =>
    mc_bn (mc_u I 145 1 3) fun I6 =>
    some (I6, R5)
  else
    if ((v2 + 1) < 0 ∨ 4 ≤ (v2 + 1).toNatClampNeg) then none else
    mc_bn (R 146 (v2 + 1).toNatClampNeg) fun y8 =>
    if (v2 < 0 ∨ 4 ≤ v2.toNatClampNeg) then none else
    mc_bn (mc_u R 146 v2.toNatClampNeg y8) fun R10 =>
    mc_bn ((v2 + 1)) fun x11 =>
    k9 I R10 v1 x11
def mi_X3_dropOldest_L9 (F : Nat) : Nat → (Nat → Nat → Int32) → (Nat → Nat → Option Nat) → Option Nat → Int32 → (Option ((Nat → Nat → Int32) × (Nat → Nat → Option Nat)))
  | 0, _, _, _, _ => none
  | n + 1, I, R, v1, v2 => mi_X3_dropOldest_B9  (mi_X3_dropOldest_L9 F n) F I R v1 v2
def mi_X3_dropOldest (F : Nat) (I : Nat → Nat → Int32) (R : Nat → Nat → Option Nat) : Option ((Nat → Nat → Int32) × (Nat → Nat → Option Nat)) :=
  if ((0 : Int32) < 0 ∨ 4 ≤ (0 : Int32).toNatClampNeg) then none else
  mc_bn (R 146 (0 : Int32).toNatClampNeg) fun y2 =>
  mi_X3_dropOldest_L9 F F I R y2 0
def mi_X7_copyFrom_B2 (k2 : (Nat → Nat → Int32) → Nat → Nat → Int32 → (Option ((Nat → Nat → Int32)))) (F : Nat) (I : Nat → Nat → Int32) (v0 : Nat) (v1 : Nat) (v2 : Int32) : Option ((Nat → Nat → Int32)) :=
  if 10 ≤ v2 then
    some I
  else
    if (v2 < 0 ∨ 10 ≤ v2.toNatClampNeg) then none else
    if (v2 < 0 ∨ 10 ≤ v2.toNatClampNeg) then none else
    mc_bn (mc_u I (v0 + 1) v2.toNatClampNeg (I (v1 + 1) v2.toNatClampNeg)) fun I4 =>
    if (v2 < 0 ∨ 10 ≤ v2.toNatClampNeg) then none else
    if (v2 < 0 ∨ 10 ≤ v2.toNatClampNeg) then none else
    mc_bn (mc_u I4 (v0 + 2) v2.toNatClampNeg (I4 (v1 + 2) v2.toNatClampNeg)) fun I7 =>
    mc_bn ((v2 + 1)) fun x8 =>
    k2 I7 v0 v1 x8
def mi_X7_copyFrom_L2 (F : Nat) : Nat → (Nat → Nat → Int32) → Nat → Nat → Int32 → (Option ((Nat → Nat → Int32)))
  | 0, _, _, _, _ => none
  | n + 1, I, v0, v1, v2 => mi_X7_copyFrom_B2  (mi_X7_copyFrom_L2 F n) F I v0 v1 v2
def mi_X7_copyFrom (F : Nat) (I : Nat → Nat → Int32) (v0 : Nat) (v1 : Nat) : Option ((Nat → Nat → Int32)) :=
  mi_X7_copyFrom_L2 F F I v0 v1 0
def mi_X4_copyFrom_B2 (k2 : (Nat → Nat → Int32) → Nat → Nat → Int32 → (Option ((Nat → Nat → Int32)))) (F : Nat) (I : Nat → Nat → Int32) (v0 : Nat) (v1 : Nat) (v2 : Int32) : Option ((Nat → Nat → Int32)) :=
  if 12 ≤ v2 then
    mc_bn (mc_u I v0 1 (I v1 1)) fun I2 =>
    mc_bn (mc_u I2 v0 2 (I2 v1 2)) fun I3 =>
    mc_bn (mc_u I3 v0 3 (I3 v1 3)) fun I4 =>
    mc_bn (mc_u I4 v0 4 (I4 v1 4)) fun I5 =>
    mc_bn (mc_u I5 v0 5 (I5 v1 5)) fun I6 =>
    mc_bn (mc_u I6 v0 6 (I6 v1 6)) fun I7 =>
    some I7
  else
    if (v2 < 0 ∨ 12 ≤ v2.toNatClampNeg) then none else
    if (v2 < 0 ∨ 12 ≤ v2.toNatClampNeg) then none else
    mc_bn (mc_u I (v0 + 1) v2.toNatClampNeg (I (v1 + 1) v2.toNatClampNeg)) fun I10 =>
    mc_bn ((v2 + 1)) fun x11 =>
    k2 I10 v0 v1 x11
def mi_X4_copyFrom_L2 (F : Nat) : Nat → (Nat → Nat → Int32) → Nat → Nat → Int32 → (Option ((Nat → Nat → Int32)))
  | 0, _, _, _, _ => none
  | n + 1, I, v0, v1, v2 => mi_X4_copyFrom_B2  (mi_X4_copyFrom_L2 F n) F I v0 v1 v2
def mi_X4_copyFrom (F : Nat) (I : Nat → Nat → Int32) (v0 : Nat) (v1 : Nat) : Option ((Nat → Nat → Int32)) :=
  mi_X4_copyFrom_L2 F F I v0 v1 0
def mi_X5_bottleAt (I : Nat → Nat → Int32) (R : Nat → Nat → Option Nat) (v0 : Nat) (v1 : Int32) : Option (Option Nat) :=
  if v1 < 0 then
    some none
  else
    if (I v0 4) ≤ v1 then
      some none
    else
      if 10 ≤ v1 then
        some none
      else
        if (v1 < 0 ∨ 10 ≤ v1.toNatClampNeg) then none else
        mc_bn (R (v0 + 7) v1.toNatClampNeg) fun y5 =>
        some y5
def mi_X5_copyFrom_B67 (k67 : (Nat → Nat → Int32) → (Nat → Nat → Option Nat) → Nat → Nat → Int32 → (Option ((Nat → Nat → Int32)))) (F : Nat) (I : Nat → Nat → Int32) (R : Nat → Nat → Option Nat) (v0 : Nat) (v1 : Nat) (v2 : Int32) : Option ((Nat → Nat → Int32)) :=
  if (I v0 4) ≤ v2 then
    some I
  else
    mc_ob (mi_X5_bottleAt I R v0 v2) fun r12 =>
    mc_ob (mi_X5_bottleAt I R v1 v2) fun r14 =>
    mc_om r12 (
      mc_bn ((v2 + 1)) fun x17 =>
      k67 I R v0 v1 x17) fun b16 =>
    mc_om r14 (
      mc_bn ((v2 + 1)) fun x19 =>
      k67 I R v0 v1 x19) fun b18 =>
    mc_ob (mi_X0_copyFrom I b16 b18) fun I20 =>
    mc_bn ((v2 + 1)) fun x22 =>
    k67 I20 R v0 v1 x22
def mi_X5_copyFrom_L67 (F : Nat) : Nat → (Nat → Nat → Int32) → (Nat → Nat → Option Nat) → Nat → Nat → Int32 → (Option ((Nat → Nat → Int32)))
  | 0, _, _, _, _, _ => none
  | n + 1, I, R, v0, v1, v2 => mi_X5_copyFrom_B67  (mi_X5_copyFrom_L67 F n) F I R v0 v1 v2
def mi_X5_copyFrom (F : Nat) (I : Nat → Nat → Int32) (R : Nat → Nat → Option Nat) (v0 : Nat) (v1 : Nat) : Option ((Nat → Nat → Int32)) :=
  mc_ob (mi_X1_copyFrom I (v0 + 1) (v1 + 1)) fun I1 =>
  mc_ob (mi_X7_copyFrom F I1 (v0 + 2) (v1 + 2)) fun I3 =>
  mc_ob (mi_X4_copyFrom F I3 (v0 + 5) (v1 + 5)) fun I5 =>
  mc_bn (mc_u I5 v0 4 (I5 v1 4)) fun I7 =>
  mc_bn (mc_u I7 v0 5 (I7 v1 5)) fun I8 =>
  mc_bn (mc_u I8 v0 6 (I8 v1 6)) fun I9 =>
  mc_bn (mc_u I9 v0 7 (I9 v1 7)) fun I10 =>
  mi_X5_copyFrom_L67 F F I10 R v0 v1 0
def mi_X3_add_J40 (F : Nat) (I : Nat → Nat → Int32) (R : Nat → Nat → Option Nat) (v1 : Nat) (s0 : Option Nat) : Option ((Nat → Nat → Int32) × (Nat → Nat → Option Nat)) :=
  mc_om s0 (
    some (I, R)) fun b3 =>
  mc_ob (mi_X5_copyFrom F I R b3 v1) fun I4 =>
  mc_bn (mc_u I4 145 1 ((I4 145 1) + 1)) fun I6 =>
  some (I6, R)
def mi_X3_add_J12 (F : Nat) (I : Nat → Nat → Int32) (R : Nat → Nat → Option Nat) (v1 : Nat) : Option ((Nat → Nat → Int32) × (Nat → Nat → Option Nat)) :=
  if (I 145 1) < 0 then
    mi_X3_add_J40 F I R v1 none
  else
    if 4 ≤ (I 145 1) then
      mi_X3_add_J40 F I R v1 none
    else
      if ((I 145 1) < 0 ∨ 4 ≤ (I 145 1).toNatClampNeg) then none else
      mc_bn (R 146 (I 145 1).toNatClampNeg) fun y9 =>
      mi_X3_add_J40 F I R v1 y9
def mi_X3_add (F : Nat) (I : Nat → Nat → Int32) (R : Nat → Nat → Option Nat) (v1 : Nat) : Option ((Nat → Nat → Int32) × (Nat → Nat → Option Nat)) :=
  if (I 145 1) < 4 then
    mi_X3_add_J12 F I R v1
  else
    mc_ob2 (mi_X3_dropOldest F I R) fun I10 R11 =>
    mi_X3_add_J12 F I10 R11 v1
def mi_X3_takeLatest_J26 (F : Nat) (I : Nat → Nat → Int32) (R : Nat → Nat → Option Nat) (v1 : Nat) (v2 : Int32) (s0 : Option Nat) : Option ((Nat → Nat → Int32) × Int32) :=
  mc_om s0 (
    some (I, 0)) fun b3 =>
  mc_ob (mi_X5_copyFrom F I R v1 b3) fun I4 =>
  mc_bn (mc_u I4 145 1 v2) fun I6 =>
  some (I6, 1)
def mi_X3_takeLatest (F : Nat) (I : Nat → Nat → Int32) (R : Nat → Nat → Option Nat) (v1 : Nat) : Option ((Nat → Nat → Int32) × Int32) :=
  mc_bn (((I 145 1) - 1)) fun x1 =>
  if x1 < 0 then
    mi_X3_takeLatest_J26 F I R v1 x1 none
  else
    if 4 ≤ x1 then
      mi_X3_takeLatest_J26 F I R v1 x1 none
    else
      if (x1 < 0 ∨ 4 ≤ x1.toNatClampNeg) then none else
      mc_bn (R 146 x1.toNatClampNeg) fun y9 =>
      mi_X3_takeLatest_J26 F I R v1 x1 y9
def mi_X4_markAt (I : Nat → Nat → Int32) (v0 : Nat) (v1 : Int32) : Option (Int32) :=
  if v1 < 0 then
    some 0
  else
    if 12 ≤ v1 then
      some 0
    else
      if (v1 < 0 ∨ 12 ≤ v1.toNatClampNeg) then none else
      some (I (v0 + 1) v1.toNatClampNeg)
def mi_X4_put (I : Nat → Nat → Int32) (v0 : Nat) (v1 : Int32) (v2 : Int32) : Option ((Nat → Nat → Int32)) :=
  if v1 < 0 then
    some I
  else
    if 12 ≤ v1 then
      some I
    else
      if (v1 < 0 ∨ 12 ≤ v1.toNatClampNeg) then none else
      mc_bn (mc_u I (v0 + 1) v1.toNatClampNeg v2) fun I4 =>
      some I4
def mi_X4_isAnyAbove (I : Nat → Nat → Int32) (v0 : Nat) (v1 : Int32) : Option (Int32) :=
  if (I v0 1) ≤ 0 then
    some 0
  else
    mc_ob (mi_X4_markAt I v0 ((I v0 1) - 1)) fun r2 =>
    if r2 ≤ v1 then
      some 0
    else
      some 1
def mi_X4_takeBackAbove_J33 (F : Nat) (I : Nat → Nat → Int32) (v0 : Nat) (v2 : Int32) : Option ((Nat → Nat → Int32) × Int32) :=
  mc_bn (mc_u I v0 6 ((I v0 6) + (v2 - (I v0 1)))) fun I4 =>
  some (I4, (v2 - (I4 v0 1)))
def mi_X4_takeBackAbove_B9 (k9 : (Nat → Nat → Int32) → Nat → Int32 → Int32 → Int32 → (Option ((Nat → Nat → Int32) × Int32))) (F : Nat) (I : Nat → Nat → Int32) (v0 : Nat) (v1 : Int32) (v2 : Int32) (v3 : Int32) : Option ((Nat → Nat → Int32) × Int32) :=
  if v3 < 0 then
    mi_X4_takeBackAbove_J33 F I v0 v2
  else
    mc_ob (mi_X4_markAt I v0 v3) fun r5 =>
    if r5 ≤ v1 then
      mi_X4_takeBackAbove_J33 F I v0 v2
    else
      mc_bn (mc_u I v0 1 v3) fun I8 =>
      mc_bn ((v3 + (-1))) fun x9 =>
      k9 I8 v0 v1 v2 x9
def mi_X4_takeBackAbove_L9 (F : Nat) : Nat → (Nat → Nat → Int32) → Nat → Int32 → Int32 → Int32 → (Option ((Nat → Nat → Int32) × Int32))
  | 0, _, _, _, _, _ => none
  | n + 1, I, v0, v1, v2, v3 => mi_X4_takeBackAbove_B9  (mi_X4_takeBackAbove_L9 F n) F I v0 v1 v2 v3
def mi_X4_takeBackAbove (F : Nat) (I : Nat → Nat → Int32) (v0 : Nat) (v1 : Int32) : Option ((Nat → Nat → Int32) × Int32) :=
  mc_bn ((I v0 1)) fun x1 =>
  mc_bn ((x1 - 1)) fun x2 =>
  mi_X4_takeBackAbove_L9 F F I v0 v1 x1 x2
def mi_X4_sinkAll_B2 (k2 : (Nat → Nat → Int32) → Nat → Int32 → Int32 → (Option ((Nat → Nat → Int32)))) (F : Nat) (I : Nat → Nat → Int32) (v0 : Nat) (v1 : Int32) (v2 : Int32) : Option ((Nat → Nat → Int32)) :=
  if (I v0 1) ≤ v2 then
    some I
  else
    mc_ob (mi_X4_markAt I v0 v2) fun r2 =>
    mc_ob (mi_X4_put I v0 v2 (r2 - v1)) fun I4 =>
    mc_bn ((v2 + 1)) fun x6 =>
    k2 I4 v0 v1 x6
def mi_X4_sinkAll_L2 (F : Nat) : Nat → (Nat → Nat → Int32) → Nat → Int32 → Int32 → (Option ((Nat → Nat → Int32)))
  | 0, _, _, _, _ => none
  | n + 1, I, v0, v1, v2 => mi_X4_sinkAll_B2  (mi_X4_sinkAll_L2 F n) F I v0 v1 v2
def mi_X4_sinkAll (F : Nat) (I : Nat → Nat → Int32) (v0 : Nat) (v1 : Int32) : Option ((Nat → Nat → Int32)) :=
  mi_X4_sinkAll_L2 F F I v0 v1 0
def mi_X8_layerAt (v0 : Int32) : Int32 :=
  (mc_min 9 (v0 / 100))
def mi_X7_has (v0 : Nat) (v1 : Int32) : Int32 :=
  if v1 < 0 then
    0
  else
    if 10 ≤ v1 then
      0
    else
      1
def mi_X7_warmthIn (I : Nat → Nat → Int32) (v0 : Nat) (v1 : Int32) : Option (Int32) :=
  if (mi_X7_has v0 v1) = 0 then
    some 0
  else
    if (v1 < 0 ∨ 10 ≤ v1.toNatClampNeg) then none else
    some (I (v0 + 1) v1.toNatClampNeg)
def mi_X7_saltIn (I : Nat → Nat → Int32) (v0 : Nat) (v1 : Int32) : Option (Int32) :=
  if (mi_X7_has v0 v1) = 0 then
    some 0
  else
    if (v1 < 0 ∨ 10 ≤ v1.toNatClampNeg) then none else
    some (I (v0 + 2) v1.toNatClampNeg)
def mi_X5_shut (I : Nat → Nat → Int32) (v0 : Nat) (v1 : Nat) : Option ((Nat → Nat → Int32)) :=
  mc_bn (((I (v0 + 1) 0) - (I v1 0))) fun x1 =>
  mc_ob (mi_X8_depthAt I x1 (mi_X1_countedSlope I (v0 + 1))) fun r3 =>
  mc_bn (mc_u I v1 3 1) fun I5 =>
  mc_bn (mc_u I5 v1 5 (I5 v0 5)) fun I6 =>
  mc_bn (mc_u I6 v1 6 x1) fun I7 =>
  mc_bn (mc_u I7 v1 7 (mi_X8_layerAt r3)) fun I9 =>
  mc_ob (mi_X7_warmthIn I9 (v0 + 2) (I9 v1 7)) fun r10 =>
  mc_bn (mc_u I9 v1 8 r10) fun I12 =>
  mc_bn (mc_u I12 v1 9 ((I12 v1 8) + (r3 / 10))) fun I13 =>
  mc_ob (mi_X7_saltIn I13 (v0 + 2) (I13 v1 7)) fun r14 =>
  mc_bn (mc_u I13 v1 10 r14) fun I16 =>
  some I16
def mi_X5_jerk_B2 (k2 : (Nat → Nat → Int32) → (Nat → Nat → Option Nat) → Nat → Int32 → (Option ((Nat → Nat → Int32)))) (F : Nat) (I : Nat → Nat → Int32) (R : Nat → Nat → Option Nat) (v0 : Nat) (v1 : Int32) : Option ((Nat → Nat → Int32)) :=
  if (I v0 4) ≤ v1 then
    some I
  else
    mc_ob (mi_X5_bottleAt I R v0 v1) fun r2 =>
    mc_om r2 (
      mc_bn ((v1 + 1)) fun x5 =>
      k2 I R v0 x5) fun b4 =>
    if (I b4 3) = 0 then
      if (mi_X1_isInWater I (v0 + 1) (I b4 0)) = 0 then
        mc_bn ((v1 + 1)) fun x11 =>
        k2 I R v0 x11
      else
        mc_ob (mi_X5_shut I v0 b4) fun I12 =>
        mc_bn (mc_u I12 b4 4 1) fun I14 =>
        some I14
    else
      mc_bn ((v1 + 1)) fun x7 =>
      k2 I R v0 x7
def mi_X5_jerk_L2 (F : Nat) : Nat → (Nat → Nat → Int32) → (Nat → Nat → Option Nat) → Nat → Int32 → (Option ((Nat → Nat → Int32)))
  | 0, _, _, _, _ => none
  | n + 1, I, R, v0, v1 => mi_X5_jerk_B2  (mi_X5_jerk_L2 F n) F I R v0 v1
def mi_X5_jerk (F : Nat) (I : Nat → Nat → Int32) (R : Nat → Nat → Option Nat) (v0 : Nat) : Option ((Nat → Nat → Int32)) :=
  mi_X5_jerk_L2 F F I R v0 0
def mi_X5_payOut (F : Nat) (I : Nat → Nat → Int32) (R : Nat → Nat → Option Nat) (v0 : Nat) (v1 : Int32) : Option ((Nat → Nat → Int32) × Int32) :=
  if v1 < (-999) then
    some (I, (-1002))
  else
    if 999 < v1 then
      some (I, (-1002))
    else
      if v1 = 0 then
        some (I, (-1002))
      else
        mc_bn (((I (v0 + 1) 0) + v1)) fun x4 =>
        if 0 ≤ x4 then
          if x4 ≤ 999 then
            mc_bn (mc_u I (v0 + 1) 0 x4) fun I7 =>
            if (mc_abs v1) ≤ (I7 v0 7) then
              mc_ob2 (mi_X4_takeBackAbove F I7 (v0 + 5) x4) fun I9 r10 =>
              some (I9, r10)
            else
              mc_ob (mi_X5_jerk F I7 R v0) fun I12 =>
              mc_ob2 (mi_X4_takeBackAbove F I12 (v0 + 5) x4) fun I14 r15 =>
              some (I14, r15)
          else
            some (I, (-1003))
        else
          some (I, (-1004))
def mi_X5_changeSlope (I : Nat → Nat → Int32) (v0 : Nat) (v1 : Int32) : (Nat → Nat → Int32) × Int32 :=
  if v1 < 0 then
    (I, (-1002))
  else
    if v1 ≤ 6 then
      mc_bn ((I (v0 + 1) 1)) fun x3 =>
      if x3 = v1 then
        (I, (-1005))
      else
        mc_bn (mc_u I (v0 + 1) 1 v1) fun I5 =>
        (I5, x3)
    else
      (I, (-1002))
def mi_X5_changeWeight_J28 (I : Nat → Nat → Int32) (v0 : Nat) (v1 : Int32) : Option ((Nat → Nat → Int32) × Int32) :=
  if (I (v0 + 1) 2) = v1 then
    some (I, (-1005))
  else
    if (v1 ≠ 0 ∧ v1 ≠ 1) then none else
    mc_bn (mc_u I (v0 + 1) 2 v1) fun I3 =>
    some (I3, (mi_X1_countedSlope I3 (v0 + 1)))
def mi_X5_changeWeight (I : Nat → Nat → Int32) (v0 : Nat) (v1 : Int32) : Option ((Nat → Nat → Int32) × Int32) :=
  if (I (v0 + 1) 2) = 0 then
    mi_X5_changeWeight_J28 I v0 v1
  else
    if v1 = 0 then
      if (I (v0 + 1) 0) ≤ 0 then
        mi_X5_changeWeight_J28 I v0 v1
      else
        some (I, (-1004))
    else
      mi_X5_changeWeight_J28 I v0 v1
def mi_X5_insertBottle_B45 (k45 : (Nat → Nat → Int32) → (Nat → Nat → Option Nat) → Nat → Int32 → Int32 → Option Nat → Int32 → (Option ((Nat → Nat → Int32) × (Nat → Nat → Option Nat)))) (F : Nat) (I : Nat → Nat → Int32) (R : Nat → Nat → Option Nat) (v0 : Nat) (v1 : Int32) (v2 : Int32) (v3 : Option Nat) (v4 : Int32) : Option ((Nat → Nat → Int32) × (Nat → Nat → Option Nat)) :=
  if v4 ≤ v1 then
    if (v1 < 0 ∨ 10 ≤ v1.toNatClampNeg) then none else
    mc_bn (mc_u R (v0 + 7) v1.toNatClampNeg v3) fun R10 =>
    mc_bn (mc_u I v0 4 ((I v0 4) + 1)) fun I11 =>
    mc_om v3 (
      some (I11, R10)) fun b12 =>
    mc_ob (mi_X0_clampAt I11 b12 (I11 (v0 + 1) 0) v2) fun I13 =>
    some (I13, R10)
  else
    if ((v4 - 1) < 0 ∨ 10 ≤ (v4 - 1).toNatClampNeg) then none else
    mc_bn (R (v0 + 7) (v4 - 1).toNatClampNeg) fun y16 =>
    if (v4 < 0 ∨ 10 ≤ v4.toNatClampNeg) then none else
    mc_bn (mc_u R (v0 + 7) v4.toNatClampNeg y16) fun R18 =>
    mc_bn ((v4 + (-1))) fun x19 =>
    k45 I R18 v0 v1 v2 v3 x19
def mi_X5_insertBottle_L45 (F : Nat) : Nat → (Nat → Nat → Int32) → (Nat → Nat → Option Nat) → Nat → Int32 → Int32 → Option Nat → Int32 → (Option ((Nat → Nat → Int32) × (Nat → Nat → Option Nat)))
  | 0, _, _, _, _, _, _, _ => none
  | n + 1, I, R, v0, v1, v2, v3, v4 => mi_X5_insertBottle_B45  (mi_X5_insertBottle_L45 F n) F I R v0 v1 v2 v3 v4
def mi_X5_insertBottle (F : Nat) (I : Nat → Nat → Int32) (R : Nat → Nat → Option Nat) (v0 : Nat) (v1 : Int32) (v2 : Int32) : Option ((Nat → Nat → Int32) × (Nat → Nat → Option Nat)) :=
  if v1 < 0 then
    some (I, R)
  else
    if (I v0 4) < v1 then
      some (I, R)
    else
      if (I v0 4) < 0 then
        some (I, R)
      else
        if (I v0 4) < 10 then
          if ((I v0 4) < 0 ∨ 10 ≤ (I v0 4).toNatClampNeg) then none else
          mc_bn (R (v0 + 7) (I v0 4).toNatClampNeg) fun y6 =>
          mc_bn ((I v0 4)) fun x7 =>
          mi_X5_insertBottle_L45 F F I R v0 v1 v2 y6 x7
        else
          some (I, R)
def mi_X5_addBottle_J61 (k17 : (Nat → Nat → Int32) → (Nat → Nat → Option Nat) → Nat → Int32 → Int32 → Int32 → (Option ((Nat → Nat → Int32) × (Nat → Nat → Option Nat) × Int32))) (F : Nat) (I : Nat → Nat → Int32) (R : Nat → Nat → Option Nat) (v0 : Nat) (v1 : Int32) (v2 : Int32) (v3 : Int32) (v4 : Option Nat) : Option ((Nat → Nat → Int32) × (Nat → Nat → Option Nat) × Int32) :=
  mc_om v4 (
    mc_bn ((v3 + 1)) fun x10 =>
    k17 I R v0 v1 v2 x10) fun b9 =>
  if (I (v0 + 1) 0) ≤ (I b9 0) then
    mc_bn ((v3 + 1)) fun x12 =>
    k17 I R v0 v1 v2 x12
  else
    mc_bn ((v3 + 1)) fun x13 =>
    mc_bn ((v3 + 1)) fun x14 =>
    k17 I R v0 v1 x13 x14
def mi_X5_addBottle_B17 (k17 : (Nat → Nat → Int32) → (Nat → Nat → Option Nat) → Nat → Int32 → Int32 → Int32 → (Option ((Nat → Nat → Int32) × (Nat → Nat → Option Nat) × Int32))) (F : Nat) (I : Nat → Nat → Int32) (R : Nat → Nat → Option Nat) (v0 : Nat) (v1 : Int32) (v2 : Int32) (v3 : Int32) : Option ((Nat → Nat → Int32) × (Nat → Nat → Option Nat) × Int32) :=
  if (I v0 4) ≤ v3 then
    mc_ob2 (mi_X5_insertBottle F I R v0 v2 v1) fun I3 R4 =>
    some (I3, R4, v2)
  else
    mc_ob (mi_X5_bottleAt I R v0 v3) fun r6 =>
    mc_om r6 (
      mi_X5_addBottle_J61 k17 F I R v0 v1 v2 v3 none) fun b8 =>
    if 5 ≤ (mc_abs ((I b8 0) - (I (v0 + 1) 0))) then
      mi_X5_addBottle_J61 k17 F I R v0 v1 v2 v3 (some b8)
    else
      some (I, R, (-1004))
def mi_X5_addBottle_L17 (F : Nat) : Nat → (Nat → Nat → Int32) → (Nat → Nat → Option Nat) → Nat → Int32 → Int32 → Int32 → (Option ((Nat → Nat → Int32) × (Nat → Nat → Option Nat) × Int32))
  | 0, _, _, _, _, _, _ => none
  | n + 1, I, R, v0, v1, v2, v3 => mi_X5_addBottle_B17  (mi_X5_addBottle_L17 F n) F I R v0 v1 v2 v3
def mi_X5_addBottle (F : Nat) (I : Nat → Nat → Int32) (R : Nat → Nat → Option Nat) (v0 : Nat) (v1 : Int32) : Option ((Nat → Nat → Int32) × (Nat → Nat → Option Nat) × Int32) :=
  if (I v0 4) < 10 then
    mi_X5_addBottle_L17 F F I R v0 v1 0 0
  else
    some (I, R, (-1003))
def mi_X5_removeBottle_J74 (F : Nat) (I : Nat → Nat → Int32) (R : Nat → Nat → Option Nat) (v0 : Nat) (v2 : Nat) : Option ((Nat → Nat → Int32) × (Nat → Nat → Option Nat) × Int32) :=
  mc_bn (mc_u I v0 4 ((I v0 4) - 1)) fun I8 =>
  if (I8 v0 4) < 0 then
    some (I8, R, (I8 v0 4))
  else
    if 10 ≤ (I8 v0 4) then
      some (I8, R, (I8 v0 4))
    else
      if ((I8 v0 4) < 0 ∨ 10 ≤ (I8 v0 4).toNatClampNeg) then none else
      mc_bn (mc_u R (v0 + 7) (I8 v0 4).toNatClampNeg (some v2)) fun R12 =>
      some (I8, R12, (I8 v0 4))
def mi_X5_removeBottle_B34 (k34 : (Nat → Nat → Int32) → (Nat → Nat → Option Nat) → Nat → Nat → Int32 → (Option ((Nat → Nat → Int32) × (Nat → Nat → Option Nat) × Int32))) (F : Nat) (I : Nat → Nat → Int32) (R : Nat → Nat → Option Nat) (v0 : Nat) (v2 : Nat) (v3 : Int32) : Option ((Nat → Nat → Int32) × (Nat → Nat → Option Nat) × Int32) :=
  if v3 < 0 then
    mi_X5_removeBottle_J74 F I R v0 v2
  else
    if ((I v0 4) - 1) ≤ v3 then
      mi_X5_removeBottle_J74 F I R v0 v2
    else
      if 9 ≤ v3 then
        mi_X5_removeBottle_J74 F I R v0 v2
      else
        if ((v3 + 1) < 0 ∨ 10 ≤ (v3 + 1).toNatClampNeg) then none else
        mc_bn (R (v0 + 7) (v3 + 1).toNatClampNeg) fun y16 =>
        if (v3 < 0 ∨ 10 ≤ v3.toNatClampNeg) then none else
        mc_bn (mc_u R (v0 + 7) v3.toNatClampNeg y16) fun R18 =>
        mc_bn ((v3 + 1)) fun x19 =>
        k34 I R18 v0 v2 x19
def mi_X5_removeBottle_L34 (F : Nat) : Nat → (Nat → Nat → Int32) → (Nat → Nat → Option Nat) → Nat → Nat → Int32 → (Option ((Nat → Nat → Int32) × (Nat → Nat → Option Nat) × Int32))
  | 0, _, _, _, _, _ => none
  | n + 1, I, R, v0, v2, v3 => mi_X5_removeBottle_B34  (mi_X5_removeBottle_L34 F n) F I R v0 v2 v3
def mi_X5_removeBottle (F : Nat) (I : Nat → Nat → Int32) (R : Nat → Nat → Option Nat) (v0 : Nat) (v1 : Int32) : Option ((Nat → Nat → Int32) × (Nat → Nat → Option Nat) × Int32) :=
  mc_ob (mi_X5_bottleAt I R v0 v1) fun r1 =>
  mc_om r1 (
    some (I, R, (-1001))) fun b3 =>
  if (mi_X1_isInWater I (v0 + 1) (I b3 0)) = 0 then
    mi_X5_removeBottle_L34 F F I R v0 b3 v1
  else
    some (I, R, (-1004))
def mi_X5_letGo (I : Nat → Nat → Int32) (v0 : Nat) : Option ((Nat → Nat → Int32) × Int32) :=
  if (I (v0 + 1) 0) = 0 then
    some (I, (-1004))
  else
    if (I (v0 + 5) 1) < 12 then
      mc_ob (mi_X4_put I (v0 + 5) (I (v0 + 5) 1) (I (v0 + 1) 0)) fun I3 =>
      mc_bn (mc_u I3 (v0 + 5) 1 ((I3 (v0 + 5) 1) + 1)) fun I5 =>
      mc_bn (mc_u I5 (v0 + 5) 2 ((I5 (v0 + 5) 2) + 1)) fun I6 =>
      some (I6, (I6 (v0 + 5) 1))
    else
      some (I, (-1003))
def mi_X5_shutBottles_B4 (k4 : (Nat → Nat → Int32) → (Nat → Nat → Option Nat) → Nat → Int32 → Int32 → Option (Int32)) (F : Nat) (I : Nat → Nat → Int32) (R : Nat → Nat → Option Nat) (v0 : Nat) (v1 : Int32) (v2 : Int32) : Option (Int32) :=
  if (I v0 4) ≤ v2 then
    some v1
  else
    mc_ob (mi_X5_bottleAt I R v0 v2) fun r2 =>
    mc_om r2 (
      mc_bn ((v2 + 1)) fun x5 =>
      k4 I R v0 v1 x5) fun b4 =>
    if (I b4 3) = 0 then
      mc_bn ((v2 + 1)) fun x7 =>
      k4 I R v0 v1 x7
    else
      mc_bn ((v1 + 1)) fun x8 =>
      mc_bn ((v2 + 1)) fun x9 =>
      k4 I R v0 x8 x9
def mi_X5_shutBottles_L4 (F : Nat) : Nat → (Nat → Nat → Int32) → (Nat → Nat → Option Nat) → Nat → Int32 → Int32 → Option (Int32)
  | 0, _, _, _, _, _ => none
  | n + 1, I, R, v0, v1, v2 => mi_X5_shutBottles_B4  (mi_X5_shutBottles_L4 F n) F I R v0 v1 v2
def mi_X5_shutBottles (F : Nat) (I : Nat → Nat → Int32) (R : Nat → Nat → Option Nat) (v0 : Nat) : Option (Int32) :=
  mi_X5_shutBottles_L4 F F I R v0 0 0
def mi_X5_secondsOnWay_B13 (k13 : (Nat → Nat → Int32) → (Nat → Nat → Option Nat) → Nat → Int32 → Int32 → Int32 → Int32 → Option (Int32)) (F : Nat) (I : Nat → Nat → Int32) (R : Nat → Nat → Option Nat) (v0 : Nat) (v1 : Int32) (v2 : Int32) (v3 : Int32) (v4 : Int32) : Option (Int32) :=
  if (I v0 4) ≤ v4 then
    if 1 ≤ v2 then
      if (v2 = 0) then none else
      some (mc_max 1 ((((v1 - v3) + v2) - 1) / v2))
    else
      some 1
  else
    mc_ob (mi_X5_bottleAt I R v0 v4) fun r6 =>
    mc_om r6 (
      mc_bn ((v4 + 1)) fun x9 =>
      k13 I R v0 v1 v2 v3 x9) fun b8 =>
    if v1 ≤ (I b8 0) then
      mc_bn ((v4 + 1)) fun x11 =>
      k13 I R v0 v1 v2 v3 x11
    else
      mc_bn ((I b8 0)) fun x12 =>
      mc_bn ((v4 + 1)) fun x13 =>
      k13 I R v0 v1 v2 x12 x13
def mi_X5_secondsOnWay_L13 (F : Nat) : Nat → (Nat → Nat → Int32) → (Nat → Nat → Option Nat) → Nat → Int32 → Int32 → Int32 → Int32 → Option (Int32)
  | 0, _, _, _, _, _, _, _ => none
  | n + 1, I, R, v0, v1, v2, v3, v4 => mi_X5_secondsOnWay_B13  (mi_X5_secondsOnWay_L13 F n) F I R v0 v1 v2 v3 v4
def mi_X5_secondsOnWay (F : Nat) (I : Nat → Nat → Int32) (R : Nat → Nat → Option Nat) (v0 : Nat) (v1 : Int32) : Option (Int32) :=
  mc_bn ((mi_X1_step I (v0 + 1))) fun x2 =>
  mi_X5_secondsOnWay_L13 F F I R v0 v1 x2 0 0
def mi_X5_skipQuietSeconds_B14 (k14 : (Nat → Nat → Int32) → (Nat → Nat → Option Nat) → Nat → Int32 → Int32 → (Option ((Nat → Nat → Int32)))) (F : Nat) (I : Nat → Nat → Int32) (R : Nat → Nat → Option Nat) (v0 : Nat) (v2 : Int32) (v3 : Int32) : Option ((Nat → Nat → Int32)) :=
  if (I (v0 + 5) 1) ≤ v3 then
    mc_ob (mi_X4_sinkAll F I (v0 + 5) (v2 * (mi_X1_step I (v0 + 1)))) fun I7 =>
    mc_bn (mc_u I7 v0 5 ((I7 v0 5) + v2)) fun I9 =>
    some I9
  else
    mc_ob (mi_X4_markAt I (v0 + 5) v3) fun r10 =>
    mc_ob (mi_X5_secondsOnWay F I R v0 r10) fun r12 =>
    mc_bn ((mc_min v2 (r12 - 1))) fun x14 =>
    mc_bn ((v3 + 1)) fun x15 =>
    k14 I R v0 x14 x15
def mi_X5_skipQuietSeconds_L14 (F : Nat) : Nat → (Nat → Nat → Int32) → (Nat → Nat → Option Nat) → Nat → Int32 → Int32 → (Option ((Nat → Nat → Int32)))
  | 0, _, _, _, _, _ => none
  | n + 1, I, R, v0, v2, v3 => mi_X5_skipQuietSeconds_B14  (mi_X5_skipQuietSeconds_L14 F n) F I R v0 v2 v3
def mi_X5_skipQuietSeconds (F : Nat) (I : Nat → Nat → Int32) (R : Nat → Nat → Option Nat) (v0 : Nat) (v1 : Int32) : Option ((Nat → Nat → Int32)) :=
  if (mi_X1_isSticking I (v0 + 1)) = 0 then
    mi_X5_skipQuietSeconds_L14 F F I R v0 v1 0
  else
    mc_bn (mc_u I v0 5 ((I v0 5) + v1)) fun I4 =>
    some I4
def mi_X5_firstBottleBetween_B7 (k7 : (Nat → Nat → Int32) → (Nat → Nat → Option Nat) → Nat → Int32 → Int32 → Int32 → Option (Option Nat)) (F : Nat) (I : Nat → Nat → Int32) (R : Nat → Nat → Option Nat) (v0 : Nat) (v1 : Int32) (v2 : Int32) (v3 : Int32) : Option (Option Nat) :=
  if v3 < 0 then
    some none
  else
    mc_ob (mi_X5_bottleAt I R v0 v3) fun r3 =>
    mc_om r3 (
      mc_bn ((v3 + (-1))) fun x6 =>
      k7 I R v0 v1 v2 x6) fun b5 =>
    if v1 ≤ (I b5 0) then
      mc_bn ((v3 + (-1))) fun x8 =>
      k7 I R v0 v1 v2 x8
    else
      if (I b5 0) < v2 then
        mc_bn ((v3 + (-1))) fun x10 =>
        k7 I R v0 v1 v2 x10
      else
        if (mi_X1_isInWater I (v0 + 1) (I b5 0)) = 0 then
          mc_bn ((v3 + (-1))) fun x14 =>
          k7 I R v0 v1 v2 x14
        else
          some (some b5)
def mi_X5_firstBottleBetween_L7 (F : Nat) : Nat → (Nat → Nat → Int32) → (Nat → Nat → Option Nat) → Nat → Int32 → Int32 → Int32 → Option (Option Nat)
  | 0, _, _, _, _, _, _ => none
  | n + 1, I, R, v0, v1, v2, v3 => mi_X5_firstBottleBetween_B7  (mi_X5_firstBottleBetween_L7 F n) F I R v0 v1 v2 v3
def mi_X5_firstBottleBetween (F : Nat) (I : Nat → Nat → Int32) (R : Nat → Nat → Option Nat) (v0 : Nat) (v1 : Int32) (v2 : Int32) : Option (Option Nat) :=
  mc_bn (((I v0 4) - 1)) fun x1 =>
  mi_X5_firstBottleBetween_L7 F F I R v0 v1 v2 x1
def mi_X5_strike (I : Nat → Nat → Int32) (v0 : Nat) (v1 : Nat) : Option ((Nat → Nat → Int32) × Int32) :=
  mc_bn (mc_u I v1 2 ((I v1 2) + 1)) fun I1 =>
  if (I1 v1 3) = 0 then
    mc_ob (mi_X5_shut I1 v0 v1) fun I3 =>
    if (I3 v1 1) = 0 then
      some (I3, 0)
    else
      mc_bn (mc_u I3 v1 1 0) fun I6 =>
      mc_bn (mc_u I6 (v0 + 5) 3 ((I6 (v0 + 5) 3) + 1)) fun I7 =>
      some (I7, 1)
  else
    some (I1, 0)
def mi_X5_passOneSecond_B25 (k25 : (Nat → Nat → Int32) → (Nat → Nat → Option Nat) → Nat → Int32 → Int32 → (Option ((Nat → Nat → Int32)))) (F : Nat) (I : Nat → Nat → Int32) (R : Nat → Nat → Option Nat) (v0 : Nat) (v1 : Int32) (v2 : Int32) : Option ((Nat → Nat → Int32)) :=
  if (I (v0 + 5) 1) ≤ v2 then
    mc_bn (mc_u I (v0 + 5) 1 v1) fun I6 =>
    some I6
  else
    mc_ob (mi_X4_markAt I (v0 + 5) v2) fun r7 =>
    mc_bn ((r7 - (mi_X1_step I (v0 + 1)))) fun x10 =>
    mc_ob (mi_X5_firstBottleBetween F I R v0 r7 x10) fun r11 =>
    mc_om r11 (
      if 0 < x10 then
        mc_ob (mi_X4_put I (v0 + 5) v1 x10) fun I15 =>
        mc_bn ((v1 + 1)) fun x17 =>
        mc_bn ((v2 + 1)) fun x18 =>
        k25 I15 R v0 x17 x18
      else
        mc_bn (mc_u I (v0 + 5) 5 ((I (v0 + 5) 5) + 1)) fun I19 =>
        mc_bn ((v2 + 1)) fun x20 =>
        k25 I19 R v0 v1 x20) fun b13 =>
    mc_bn (mc_u I (v0 + 5) 4 ((I (v0 + 5) 4) + 1)) fun I21 =>
    mc_ob2 (mi_X5_strike I21 v0 b13) fun I22 r23 =>
    if r23 = 0 then
      mc_bn ((v2 + 1)) fun x27 =>
      k25 I22 R v0 v1 x27
    else
      mc_ob (mi_X4_put I22 (v0 + 5) v1 (I22 b13 0)) fun I28 =>
      mc_bn ((v1 + 1)) fun x30 =>
      mc_bn ((v2 + 1)) fun x31 =>
      k25 I28 R v0 x30 x31
def mi_X5_passOneSecond_L25 (F : Nat) : Nat → (Nat → Nat → Int32) → (Nat → Nat → Option Nat) → Nat → Int32 → Int32 → (Option ((Nat → Nat → Int32)))
  | 0, _, _, _, _, _ => none
  | n + 1, I, R, v0, v1, v2 => mi_X5_passOneSecond_B25  (mi_X5_passOneSecond_L25 F n) F I R v0 v1 v2
def mi_X5_passOneSecond (F : Nat) (I : Nat → Nat → Int32) (R : Nat → Nat → Option Nat) (v0 : Nat) : Option ((Nat → Nat → Int32)) :=
  mc_bn (mc_u I v0 5 ((I v0 5) + 1)) fun I1 =>
  if (mi_X1_isSticking I1 (v0 + 1)) = 0 then
    mi_X5_passOneSecond_L25 F F I1 R v0 0 0
  else
    some I1
def mi_X5_letPass_B46 (k46 : (Nat → Nat → Int32) → (Nat → Nat → Option Nat) → Nat → Int32 → Int32 → Int32 → Int32 → (Option ((Nat → Nat → Int32) × Int32))) (F : Nat) (I : Nat → Nat → Int32) (R : Nat → Nat → Option Nat) (v0 : Nat) (v1 : Int32) (v2 : Int32) (v3 : Int32) (v4 : Int32) : Option ((Nat → Nat → Int32) × Int32) :=
  if v1 ≤ v4 then
    mc_ob (mi_X5_shutBottles F I R v0) fun r8 =>
    some (I, (r8 - v2))
  else
    if v3 ≤ (I v0 5) then
      mc_ob (mi_X5_shutBottles F I R v0) fun r11 =>
      some (I, (r11 - v2))
    else
      mc_ob (mi_X5_skipQuietSeconds F I R v0 ((v3 - (I v0 5)) - 1)) fun I13 =>
      mc_ob (mi_X5_passOneSecond F I13 R v0) fun I15 =>
      mc_bn ((v4 + 1)) fun x17 =>
      k46 I15 R v0 v1 v2 v3 x17
def mi_X5_letPass_L46 (F : Nat) : Nat → (Nat → Nat → Int32) → (Nat → Nat → Option Nat) → Nat → Int32 → Int32 → Int32 → Int32 → (Option ((Nat → Nat → Int32) × Int32))
  | 0, _, _, _, _, _, _, _ => none
  | n + 1, I, R, v0, v1, v2, v3, v4 => mi_X5_letPass_B46  (mi_X5_letPass_L46 F n) F I R v0 v1 v2 v3 v4
def mi_X5_letPass (F : Nat) (I : Nat → Nat → Int32) (R : Nat → Nat → Option Nat) (v0 : Nat) (v1 : Int32) : Option ((Nat → Nat → Int32) × Int32) :=
  if v1 < 1 then
    some (I, (-1002))
  else
    if v1 ≤ 999 then
      if ((I v0 5) + v1) ≤ 99999 then
        mc_ob (mi_X5_shutBottles F I R v0) fun r4 =>
        mc_bn (((I v0 5) + v1)) fun x6 =>
        mi_X5_letPass_L46 F F I R v0 v1 r4 x6 0
      else
        some (I, (-1003))
    else
      some (I, (-1002))
def mi_X5_changeSetting_J56 (I : Nat → Nat → Int32) (v0 : Nat) (v1 : Int32) (v2 : Int32) (s0 : Int32) : (Nat → Nat → Int32) × Int32 :=
  if s0 = v2 then
    (I, (-1005))
  else
    if v1 = 1 then
      mc_bn (mc_u I v0 7 v2) fun I9 =>
      (I9, s0)
    else
      mc_bn (mc_u I v0 6 v2) fun I8 =>
      (I8, s0)
def mi_X5_changeSetting_J23 (I : Nat → Nat → Int32) (v0 : Nat) (v1 : Int32) (v2 : Int32) (s0 : Int32) : (Nat → Nat → Int32) × Int32 :=
  if v2 < s0 then
    (I, (-1002))
  else
    if v2 ≤ 999 then
      if v1 = 1 then
        mi_X5_changeSetting_J56 I v0 v1 v2 (I v0 7)
      else
        mi_X5_changeSetting_J56 I v0 v1 v2 (I v0 6)
    else
      (I, (-1002))
def mi_X5_changeSetting_J13 (I : Nat → Nat → Int32) (v0 : Nat) (v1 : Int32) (v2 : Int32) : (Nat → Nat → Int32) × Int32 :=
  if v1 = 1 then
    mi_X5_changeSetting_J23 I v0 v1 v2 1
  else
    mi_X5_changeSetting_J23 I v0 v1 v2 0
def mi_X5_changeSetting (I : Nat → Nat → Int32) (v0 : Nat) (v1 : Int32) (v2 : Int32) : (Nat → Nat → Int32) × Int32 :=
  if v1 = 0 then
    mi_X5_changeSetting_J13 I v0 v1 v2
  else
    if v1 = 1 then
      mi_X5_changeSetting_J13 I v0 v1 v2
    else
      (I, (-1001))
def mi_X5_runUntilShut_B14 (k14 : (Nat → Nat → Int32) → (Nat → Nat → Option Nat) → Nat → Option Nat → Int32 → Int32 → (Option ((Nat → Nat → Int32) × Int32))) (F : Nat) (I : Nat → Nat → Int32) (R : Nat → Nat → Option Nat) (v0 : Nat) (v2 : Option Nat) (v3 : Int32) (v4 : Int32) : Option ((Nat → Nat → Int32) × Int32) :=
  if 2000 ≤ v4 then
    some (I, (-1005))
  else
    if (I (v0 + 5) 1) ≤ 0 then
      some (I, (-1005))
    else
      if (mi_X1_isSticking I (v0 + 1)) = 0 then
        mc_ob (mi_X5_skipQuietSeconds F I R v0 2000) fun I9 =>
        mc_ob (mi_X5_passOneSecond F I9 R v0) fun I11 =>
        mc_om v2 (
          mc_bn ((v4 + 1)) fun x14 =>
          k14 I11 R v0 none v3 x14) fun b13 =>
        if (I11 b13 3) = 0 then
          mc_bn ((v4 + 1)) fun x16 =>
          k14 I11 R v0 (some b13) v3 x16
        else
          some (I11, ((I11 v0 5) - v3))
      else
        some (I, (-1005))
def mi_X5_runUntilShut_L14 (F : Nat) : Nat → (Nat → Nat → Int32) → (Nat → Nat → Option Nat) → Nat → Option Nat → Int32 → Int32 → (Option ((Nat → Nat → Int32) × Int32))
  | 0, _, _, _, _, _, _ => none
  | n + 1, I, R, v0, v2, v3, v4 => mi_X5_runUntilShut_B14  (mi_X5_runUntilShut_L14 F n) F I R v0 v2 v3 v4
def mi_X5_runUntilShut (F : Nat) (I : Nat → Nat → Int32) (R : Nat → Nat → Option Nat) (v0 : Nat) (v1 : Int32) : Option ((Nat → Nat → Int32) × Int32) :=
  mc_ob (mi_X5_bottleAt I R v0 v1) fun r1 =>
  mc_bn ((I v0 5)) fun x3 =>
  mi_X5_runUntilShut_L14 F F I R v0 r1 x3 0
def mi_X5_runUntilQuiet_B7 (k7 : (Nat → Nat → Int32) → (Nat → Nat → Option Nat) → Nat → Int32 → Int32 → (Option ((Nat → Nat → Int32) × Int32))) (F : Nat) (I : Nat → Nat → Int32) (R : Nat → Nat → Option Nat) (v0 : Nat) (v1 : Int32) (v2 : Int32) : Option ((Nat → Nat → Int32) × Int32) :=
  if 2000 ≤ v2 then
    some (I, ((I v0 5) - v1))
  else
    if (I (v0 + 5) 1) ≤ 0 then
      some (I, ((I v0 5) - v1))
    else
      if (mi_X1_isSticking I (v0 + 1)) = 0 then
        mc_ob (mi_X5_skipQuietSeconds F I R v0 2000) fun I7 =>
        mc_ob (mi_X5_passOneSecond F I7 R v0) fun I9 =>
        mc_bn ((v2 + 1)) fun x11 =>
        k7 I9 R v0 v1 x11
      else
        some (I, ((I v0 5) - v1))
def mi_X5_runUntilQuiet_L7 (F : Nat) : Nat → (Nat → Nat → Int32) → (Nat → Nat → Option Nat) → Nat → Int32 → Int32 → (Option ((Nat → Nat → Int32) × Int32))
  | 0, _, _, _, _, _ => none
  | n + 1, I, R, v0, v1, v2 => mi_X5_runUntilQuiet_B7  (mi_X5_runUntilQuiet_L7 F n) F I R v0 v1 v2
def mi_X5_runUntilQuiet (F : Nat) (I : Nat → Nat → Int32) (R : Nat → Nat → Option Nat) (v0 : Nat) : Option ((Nat → Nat → Int32) × Int32) :=
  mc_bn ((I v0 5)) fun x1 =>
  mi_X5_runUntilQuiet_L7 F F I R v0 x1 0
def mi_X5_isDoubtful (I : Nat → Nat → Int32) (v0 : Nat) (v1 : Nat) : Int32 :=
  if (I v1 3) = 0 then
    0
  else
    if (mi_X0_difference I v1) ≤ (I v0 6) then
      0
    else
      1
def mi_X5_bottlesInWater_B4 (k4 : (Nat → Nat → Int32) → (Nat → Nat → Option Nat) → Nat → Int32 → Int32 → Option (Int32)) (F : Nat) (I : Nat → Nat → Int32) (R : Nat → Nat → Option Nat) (v0 : Nat) (v1 : Int32) (v2 : Int32) : Option (Int32) :=
  if (I v0 4) ≤ v2 then
    some v1
  else
    mc_ob (mi_X5_bottleAt I R v0 v2) fun r2 =>
    mc_om r2 (
      mc_bn ((v2 + 1)) fun x5 =>
      k4 I R v0 v1 x5) fun b4 =>
    if (mi_X1_isInWater I (v0 + 1) (I b4 0)) = 0 then
      mc_bn ((v2 + 1)) fun x9 =>
      k4 I R v0 v1 x9
    else
      mc_bn ((v1 + 1)) fun x10 =>
      mc_bn ((v2 + 1)) fun x11 =>
      k4 I R v0 x10 x11
def mi_X5_bottlesInWater_L4 (F : Nat) : Nat → (Nat → Nat → Int32) → (Nat → Nat → Option Nat) → Nat → Int32 → Int32 → Option (Int32)
  | 0, _, _, _, _, _ => none
  | n + 1, I, R, v0, v1, v2 => mi_X5_bottlesInWater_B4  (mi_X5_bottlesInWater_L4 F n) F I R v0 v1 v2
def mi_X5_bottlesInWater (F : Nat) (I : Nat → Nat → Int32) (R : Nat → Nat → Option Nat) (v0 : Nat) : Option (Int32) :=
  mi_X5_bottlesInWater_L4 F F I R v0 0 0
def mi_X5_doubtfulBottles_B4 (k4 : (Nat → Nat → Int32) → (Nat → Nat → Option Nat) → Nat → Int32 → Int32 → Option (Int32)) (F : Nat) (I : Nat → Nat → Int32) (R : Nat → Nat → Option Nat) (v0 : Nat) (v1 : Int32) (v2 : Int32) : Option (Int32) :=
  if (I v0 4) ≤ v2 then
    some v1
  else
    mc_ob (mi_X5_bottleAt I R v0 v2) fun r2 =>
    mc_om r2 (
      mc_bn ((v2 + 1)) fun x5 =>
      k4 I R v0 v1 x5) fun b4 =>
    if (mi_X5_isDoubtful I v0 b4) = 0 then
      mc_bn ((v2 + 1)) fun x9 =>
      k4 I R v0 v1 x9
    else
      mc_bn ((v1 + 1)) fun x10 =>
      mc_bn ((v2 + 1)) fun x11 =>
      k4 I R v0 x10 x11
def mi_X5_doubtfulBottles_L4 (F : Nat) : Nat → (Nat → Nat → Int32) → (Nat → Nat → Option Nat) → Nat → Int32 → Int32 → Option (Int32)
  | 0, _, _, _, _, _ => none
  | n + 1, I, R, v0, v1, v2 => mi_X5_doubtfulBottles_B4  (mi_X5_doubtfulBottles_L4 F n) F I R v0 v1 v2
def mi_X5_doubtfulBottles (F : Nat) (I : Nat → Nat → Int32) (R : Nat → Nat → Option Nat) (v0 : Nat) : Option (Int32) :=
  mi_X5_doubtfulBottles_L4 F F I R v0 0 0
def mi_X5_openInLayer_B4 (k4 : (Nat → Nat → Int32) → (Nat → Nat → Option Nat) → Nat → Int32 → Int32 → Int32 → Option (Int32)) (F : Nat) (I : Nat → Nat → Int32) (R : Nat → Nat → Option Nat) (v0 : Nat) (v1 : Int32) (v2 : Int32) (v3 : Int32) : Option (Int32) :=
  if (I v0 4) ≤ v3 then
    some v2
  else
    mc_ob (mi_X5_bottleAt I R v0 v3) fun r2 =>
    mc_om r2 (
      mc_bn ((v3 + 1)) fun x5 =>
      k4 I R v0 v1 v2 x5) fun b4 =>
    if (I b4 3) = 0 then
      if (mi_X1_isInWater I (v0 + 1) (I b4 0)) = 0 then
        mc_bn ((v3 + 1)) fun x11 =>
        k4 I R v0 v1 v2 x11
      else
        mc_ob (mi_X1_depthOf I (v0 + 1) (I b4 0)) fun r12 =>
        if (mi_X8_layerAt r12) = v1 then
          mc_bn ((v2 + 1)) fun x17 =>
          mc_bn ((v3 + 1)) fun x18 =>
          k4 I R v0 v1 x17 x18
        else
          mc_bn ((v3 + 1)) fun x16 =>
          k4 I R v0 v1 v2 x16
    else
      mc_bn ((v3 + 1)) fun x7 =>
      k4 I R v0 v1 v2 x7
def mi_X5_openInLayer_L4 (F : Nat) : Nat → (Nat → Nat → Int32) → (Nat → Nat → Option Nat) → Nat → Int32 → Int32 → Int32 → Option (Int32)
  | 0, _, _, _, _, _, _ => none
  | n + 1, I, R, v0, v1, v2, v3 => mi_X5_openInLayer_B4  (mi_X5_openInLayer_L4 F n) F I R v0 v1 v2 v3
def mi_X5_openInLayer (F : Nat) (I : Nat → Nat → Int32) (R : Nat → Nat → Option Nat) (v0 : Nat) (v1 : Int32) : Option (Int32) :=
  mi_X5_openInLayer_L4 F F I R v0 v1 0 0
def mi_X5_shutInLayer_B4 (k4 : (Nat → Nat → Int32) → (Nat → Nat → Option Nat) → Nat → Int32 → Int32 → Int32 → Option (Int32)) (F : Nat) (I : Nat → Nat → Int32) (R : Nat → Nat → Option Nat) (v0 : Nat) (v1 : Int32) (v2 : Int32) (v3 : Int32) : Option (Int32) :=
  if (I v0 4) ≤ v3 then
    some v2
  else
    mc_ob (mi_X5_bottleAt I R v0 v3) fun r2 =>
    mc_om r2 (
      mc_bn ((v3 + 1)) fun x5 =>
      k4 I R v0 v1 v2 x5) fun b4 =>
    if (I b4 3) = 0 then
      mc_bn ((v3 + 1)) fun x7 =>
      k4 I R v0 v1 v2 x7
    else
      if (I b4 7) = v1 then
        mc_bn ((v2 + 1)) fun x10 =>
        mc_bn ((v3 + 1)) fun x11 =>
        k4 I R v0 v1 x10 x11
      else
        mc_bn ((v3 + 1)) fun x9 =>
        k4 I R v0 v1 v2 x9
def mi_X5_shutInLayer_L4 (F : Nat) : Nat → (Nat → Nat → Int32) → (Nat → Nat → Option Nat) → Nat → Int32 → Int32 → Int32 → Option (Int32)
  | 0, _, _, _, _, _, _ => none
  | n + 1, I, R, v0, v1, v2, v3 => mi_X5_shutInLayer_B4  (mi_X5_shutInLayer_L4 F n) F I R v0 v1 v2 v3
def mi_X5_shutInLayer (F : Nat) (I : Nat → Nat → Int32) (R : Nat → Nat → Option Nat) (v0 : Nat) (v1 : Int32) : Option (Int32) :=
  mi_X5_shutInLayer_L4 F F I R v0 v1 0 0
def mi_X7_change_J68 (I : Nat → Nat → Int32) (v0 : Nat) (v1 : Int32) (v2 : Int32) (v3 : Int32) (v4 : Int32) : Option ((Nat → Nat → Int32) × Int32) :=
  if (v1 < 0 ∨ 10 ≤ v1.toNatClampNeg) then none else
  mc_bn (mc_u I (v0 + 1) v1.toNatClampNeg v2) fun I12 =>
  if (v1 < 0 ∨ 10 ≤ v1.toNatClampNeg) then none else
  mc_bn (mc_u I12 (v0 + 2) v1.toNatClampNeg v3) fun I14 =>
  some (I14, v4)
def mi_X7_change (I : Nat → Nat → Int32) (v0 : Nat) (v1 : Int32) (v2 : Int32) (v3 : Int32) : Option ((Nat → Nat → Int32) × Int32) :=
  if (mi_X7_has v0 v1) = 0 then
    some (I, (-1001))
  else
    if v2 < (-20) then
      some (I, (-1002))
    else
      if 300 < v2 then
        some (I, (-1002))
      else
        if v3 < 0 then
          some (I, (-1002))
        else
          if v3 ≤ 420 then
            if (v1 < 0 ∨ 10 ≤ v1.toNatClampNeg) then none else
            mc_bn ((I (v0 + 1) v1.toNatClampNeg)) fun x9 =>
            if x9 = v2 then
              if (v1 < 0 ∨ 10 ≤ v1.toNatClampNeg) then none else
              if (I (v0 + 2) v1.toNatClampNeg) = v3 then
                some (I, (-1005))
              else
                mi_X7_change_J68 I v0 v1 v2 v3 x9
            else
              mi_X7_change_J68 I v0 v1 v2 v3 x9
          else
            some (I, (-1002))
def mi_X8_isDone (v0 : Int32) : Int32 :=
  if v0 ≤ (-1001) then
    0
  else
    1
def mi_X8_recorded (F : Nat) (I : Nat → Nat → Int32) (R : Nat → Nat → Option Nat) (v1 : Int32) : Option ((Nat → Nat → Int32) × (Nat → Nat → Option Nat) × Int32) :=
  if (mi_X8_isDone v1) = 0 then
    some (I, R, v1)
  else
    mc_ob2 (mi_X3_add F I R 18) fun I4 R5 =>
    some (I4, R5, v1)
def mi_X8_pay (F : Nat) (I : Nat → Nat → Int32) (R : Nat → Nat → Option Nat) (v1 : Int32) : Option ((Nat → Nat → Int32) × (Nat → Nat → Option Nat) × Int32) :=
  mc_ob (mi_X5_copyFrom F I R 18 0) fun I1 =>
  mc_ob2 (mi_X5_payOut F I1 R 0 v1) fun I3 r4 =>
  mc_ob3 (mi_X8_recorded F I3 R r4) fun I6 R7 r8 =>
  some (I6, R7, r8)
def mi_X8_setSlope (F : Nat) (I : Nat → Nat → Int32) (R : Nat → Nat → Option Nat) (v1 : Int32) : Option ((Nat → Nat → Int32) × (Nat → Nat → Option Nat) × Int32) :=
  mc_ob (mi_X5_copyFrom F I R 18 0) fun I1 =>
  mc_bn2 (mi_X5_changeSlope I1 0 v1) fun I3 r4 =>
  mc_ob3 (mi_X8_recorded F I3 R r4) fun I6 R7 r8 =>
  some (I6, R7, r8)
def mi_X8_weight (F : Nat) (I : Nat → Nat → Int32) (R : Nat → Nat → Option Nat) (v1 : Int32) : Option ((Nat → Nat → Int32) × (Nat → Nat → Option Nat) × Int32) :=
  mc_ob (mi_X5_copyFrom F I R 18 0) fun I1 =>
  mc_ob2 (mi_X5_changeWeight I1 0 v1) fun I3 r4 =>
  mc_ob3 (mi_X8_recorded F I3 R r4) fun I6 R7 r8 =>
  some (I6, R7, r8)
def mi_X8_clamp (F : Nat) (I : Nat → Nat → Int32) (R : Nat → Nat → Option Nat) (v1 : Int32) : Option ((Nat → Nat → Int32) × (Nat → Nat → Option Nat) × Int32) :=
  mc_ob (mi_X5_copyFrom F I R 18 0) fun I1 =>
  mc_ob3 (mi_X5_addBottle F I1 R 0 v1) fun I3 R4 r5 =>
  mc_ob3 (mi_X8_recorded F I3 R4 r5) fun I7 R8 r9 =>
  some (I7, R8, r9)
def mi_X8_takeOff (F : Nat) (I : Nat → Nat → Int32) (R : Nat → Nat → Option Nat) (v1 : Int32) : Option ((Nat → Nat → Int32) × (Nat → Nat → Option Nat) × Int32) :=
  mc_ob (mi_X5_copyFrom F I R 18 0) fun I1 =>
  mc_ob3 (mi_X5_removeBottle F I1 R 0 v1) fun I3 R4 r5 =>
  mc_ob3 (mi_X8_recorded F I3 R4 r5) fun I7 R8 r9 =>
  some (I7, R8, r9)
def mi_X8_send (F : Nat) (I : Nat → Nat → Int32) (R : Nat → Nat → Option Nat) : Option ((Nat → Nat → Int32) × (Nat → Nat → Option Nat) × Int32) :=
  mc_ob (mi_X5_copyFrom F I R 18 0) fun I1 =>
  mc_ob2 (mi_X5_letGo I1 0) fun I3 r4 =>
  mc_ob3 (mi_X8_recorded F I3 R r4) fun I6 R7 r8 =>
  some (I6, R7, r8)
def mi_X8_pass (F : Nat) (I : Nat → Nat → Int32) (R : Nat → Nat → Option Nat) (v1 : Int32) : Option ((Nat → Nat → Int32) × (Nat → Nat → Option Nat) × Int32) :=
  mc_ob (mi_X5_copyFrom F I R 18 0) fun I1 =>
  mc_ob2 (mi_X5_letPass F I1 R 0 v1) fun I3 r4 =>
  mc_ob3 (mi_X8_recorded F I3 R r4) fun I6 R7 r8 =>
  some (I6, R7, r8)
def mi_X8_setWater (F : Nat) (I : Nat → Nat → Int32) (R : Nat → Nat → Option Nat) (v1 : Int32) (v2 : Int32) (v3 : Int32) : Option ((Nat → Nat → Int32) × (Nat → Nat → Option Nat) × Int32) :=
  mc_ob (mi_X5_copyFrom F I R 18 0) fun I1 =>
  mc_ob2 (mi_X7_change I1 2 v1 v2 v3) fun I3 r4 =>
  mc_ob3 (mi_X8_recorded F I3 R r4) fun I6 R7 r8 =>
  some (I6, R7, r8)
def mi_X8_set (F : Nat) (I : Nat → Nat → Int32) (R : Nat → Nat → Option Nat) (v1 : Int32) (v2 : Int32) : Option ((Nat → Nat → Int32) × (Nat → Nat → Option Nat) × Int32) :=
  mc_ob (mi_X5_copyFrom F I R 18 0) fun I1 =>
  mc_bn2 (mi_X5_changeSetting I1 0 v1 v2) fun I3 r4 =>
  mc_ob3 (mi_X8_recorded F I3 R r4) fun I6 R7 r8 =>
  some (I6, R7, r8)
def mi_X8_undo (F : Nat) (I : Nat → Nat → Int32) (R : Nat → Nat → Option Nat) : Option ((Nat → Nat → Int32) × Int32) :=
  mc_ob2 (mi_X3_takeLatest F I R 0) fun I1 r2 =>
  if r2 = 0 then
    some (I1, (-1005))
  else
    some (I1, (I1 145 1))
def mi_X8_tellOfShut (I : Nat → Nat → Int32) (v1 : Nat) (v2 : Int32) : Int32 :=
  if (I v1 3) = 0 then
    (-1005)
  else
    if v2 = 6 then
      (I v1 5)
    else
      if v2 = 7 then
        (I v1 8)
      else
        if v2 = 8 then
          (I v1 9)
        else
          if v2 = 9 then
            (I v1 10)
          else
            if v2 = 10 then
              (mi_X0_depthByPair I v1)
            else
              if v2 = 11 then
                (I v1 6)
              else
                if (mi_X5_isDoubtful I 0 v1) = 0 then
                  0
                else
                  1
def mi_X8_tellOfAny (I : Nat → Nat → Int32) (v1 : Nat) (v2 : Int32) : Option (Int32) :=
  if v2 = 0 then
    some (I v1 0)
  else
    if v2 = 1 then
      some (mi_X1_metreOf I 1 (I v1 0))
    else
      if v2 = 2 then
        mc_ob (mi_X1_depthOf I 1 (I v1 0)) fun r5 =>
        some r5
      else
        if v2 = 3 then
          if (I v1 3) = 0 then
            some 0
          else
            some 1
        else
          if v2 = 4 then
            if (I v1 1) = 0 then
              some 0
            else
              some 1
          else
            if v2 = 5 then
              some (I v1 2)
            else
              if (I v1 4) = 0 then
                some 0
              else
                some 1
def mi_X8_bottle (I : Nat → Nat → Int32) (R : Nat → Nat → Option Nat) (v1 : Int32) (v2 : Int32) : Option (Int32) :=
  mc_ob (mi_X5_bottleAt I R 0 v1) fun r1 =>
  mc_om r1 (
    some (-1001)) fun b3 =>
  if v2 < 0 then
    some (-1002)
  else
    if v2 ≤ 13 then
      if v2 < 6 then
        mc_ob (mi_X8_tellOfAny I b3 v2) fun r7 =>
        some r7
      else
        if 12 < v2 then
          mc_ob (mi_X8_tellOfAny I b3 v2) fun r10 =>
          some r10
        else
          some (mi_X8_tellOfShut I b3 v2)
    else
      some (-1002)
def mi_X8_messenger (I : Nat → Nat → Int32) (v1 : Int32) (v2 : Int32) : Option (Int32) :=
  if v1 < 0 then
    some (-1002)
  else
    if v2 < 0 then
      some (-1002)
    else
      if v2 ≤ 1 then
        if v1 < (I 5 1) then
          mc_ob (mi_X4_markAt I 5 v1) fun r5 =>
          if v2 = 0 then
            some r5
          else
            mc_ob (mi_X1_depthOf I 1 r5) fun r8 =>
            some r8
        else
          some (-1005)
      else
        some (-1002)
def mi_X8_layer (F : Nat) (I : Nat → Nat → Int32) (R : Nat → Nat → Option Nat) (v1 : Int32) (v2 : Int32) : Option (Int32) :=
  if (mi_X7_has 2 v1) = 0 then
    some (-1001)
  else
    if v2 = 0 then
      mc_ob (mi_X7_warmthIn I 2 v1) fun r5 =>
      some r5
    else
      if v2 = 1 then
        mc_ob (mi_X7_saltIn I 2 v1) fun r8 =>
        some r8
      else
        if v2 = 2 then
          mc_ob (mi_X5_openInLayer F I R 0 v1) fun r11 =>
          some r11
        else
          if v2 = 3 then
            mc_ob (mi_X5_shutInLayer F I R 0 v1) fun r14 =>
            some r14
          else
            some (-1002)
def mi_X8_depth (I : Nat → Nat → Int32) (v1 : Int32) (v2 : Int32) : Option (Int32) :=
  if v1 < 0 then
    some (-1002)
  else
    if 999 < v1 then
      some (-1002)
    else
      if v2 < 0 then
        some (-1002)
      else
        if v2 ≤ 6 then
          mc_ob (mi_X8_depthAt I v1 v2) fun r5 =>
          some r5
        else
          some (-1002)
def mi_X8_secondsToShut (F : Nat) (I : Nat → Nat → Int32) (R : Nat → Nat → Option Nat) (v1 : Int32) : Option ((Nat → Nat → Int32) × Int32) :=
  mc_ob (mi_X5_copyFrom F I R 36 0) fun I1 =>
  mc_ob2 (mi_X5_runUntilShut F I1 R 36 v1) fun I3 r4 =>
  some (I3, r4)
def mi_X8_reason (F : Nat) (I : Nat → Nat → Int32) (R : Nat → Nat → Option Nat) (v1 : Int32) : Option ((Nat → Nat → Int32) × Int32) :=
  mc_ob (mi_X5_bottleAt I R 0 v1) fun r1 =>
  mc_om r1 (
    some (I, (-1001))) fun b3 =>
  if (I b3 3) = 0 then
    if (mi_X1_isInWater I 1 (I b3 0)) = 0 then
      some (I, 2)
    else
      if (mi_X1_isSticking I 1) = 0 then
        mc_ob (mi_X4_isAnyAbove I 5 (I b3 0)) fun r11 =>
        if r11 = 0 then
          some (I, 4)
        else
          mc_ob2 (mi_X8_secondsToShut F I R v1) fun I15 r16 =>
          if r16 = (-1005) then
            some (I15, 5)
          else
            some (I15, 0)
      else
        some (I, 3)
  else
    some (I, 1)
def mi_X8_shutIn (F : Nat) (I : Nat → Nat → Int32) (R : Nat → Nat → Option Nat) (v1 : Int32) : Option ((Nat → Nat → Int32) × Int32) :=
  mc_ob (mi_X5_bottleAt I R 0 v1) fun r1 =>
  mc_om r1 (
    some (I, (-1001))) fun b3 =>
  if (I b3 3) = 0 then
    mc_ob2 (mi_X8_secondsToShut F I R v1) fun I5 r6 =>
    some (I5, r6)
  else
    some (I, (-1005))
def mi_X8_quietIn (F : Nat) (I : Nat → Nat → Int32) (R : Nat → Nat → Option Nat) : Option ((Nat → Nat → Int32) × Int32) :=
  if (I 5 1) = 0 then
    some (I, 0)
  else
    if (mi_X1_isSticking I 1) = 0 then
      mc_ob (mi_X5_copyFrom F I R 36 0) fun I5 =>
      mc_ob2 (mi_X5_runUntilQuiet F I5 R 36) fun I7 r8 =>
      some (I7, r8)
    else
      some (I, (-1005))
def mi_X8_worst_B8 (k8 : (Nat → Nat → Int32) → (Nat → Nat → Option Nat) → Int32 → Int32 → Int32 → Option (Int32)) (F : Nat) (I : Nat → Nat → Int32) (R : Nat → Nat → Option Nat) (v1 : Int32) (v2 : Int32) (v3 : Int32) : Option (Int32) :=
  if (I 0 4) ≤ v3 then
    some v1
  else
    mc_ob (mi_X5_bottleAt I R 0 v3) fun r2 =>
    mc_om r2 (
      mc_bn ((v3 + 1)) fun x5 =>
      k8 I R v1 v2 x5) fun b4 =>
    if (I b4 3) = 0 then
      mc_bn ((v3 + 1)) fun x7 =>
      k8 I R v1 v2 x7
    else
      if (mi_X0_difference I b4) ≤ v2 then
        mc_bn ((v3 + 1)) fun x10 =>
        k8 I R v1 v2 x10
      else
        mc_bn ((mi_X0_difference I b4)) fun x12 =>
        mc_bn ((v3 + 1)) fun x13 =>
        k8 I R v3 x12 x13
def mi_X8_worst_L8 (F : Nat) : Nat → (Nat → Nat → Int32) → (Nat → Nat → Option Nat) → Int32 → Int32 → Int32 → Option (Int32)
  | 0, _, _, _, _, _ => none
  | n + 1, I, R, v1, v2, v3 => mi_X8_worst_B8  (mi_X8_worst_L8 F n) F I R v1 v2 v3
def mi_X8_worst (F : Nat) (I : Nat → Nat → Int32) (R : Nat → Nat → Option Nat) : Option (Int32) :=
  mi_X8_worst_L8 F F I R (-1005) (-1) 0
def mi_X8_countOnCable (F : Nat) (I : Nat → Nat → Int32) (R : Nat → Nat → Option Nat) (v1 : Int32) : Option (Int32) :=
  if v1 = 0 then
    some (I 0 5)
  else
    if v1 = 1 then
      some (I 1 0)
    else
      if v1 = 2 then
        some (I 1 1)
      else
        if v1 = 3 then
          some (mi_X1_countedSlope I 1)
        else
          if v1 = 4 then
            if (I 1 2) = 0 then
              some 0
            else
              some 1
          else
            if v1 = 5 then
              some (I 0 4)
            else
              if v1 = 6 then
                mc_ob (mi_X5_bottlesInWater F I R 0) fun r10 =>
                some r10
              else
                if v1 = 7 then
                  mc_ob (mi_X5_shutBottles F I R 0) fun r13 =>
                  some r13
                else
                  mc_ob (mi_X5_doubtfulBottles F I R 0) fun r15 =>
                  some r15
def mi_X8_countOthers (I : Nat → Nat → Int32) (v1 : Int32) : Int32 :=
  if v1 = 9 then
    (I 5 1)
  else
    if v1 = 10 then
      (I 5 2)
    else
      if v1 = 11 then
        (I 5 3)
      else
        if v1 = 12 then
          (I 5 4)
        else
          if v1 = 13 then
            (I 5 5)
          else
            if v1 = 14 then
              (I 5 6)
            else
              if v1 = 15 then
                (I 0 6)
              else
                if v1 = 16 then
                  (I 0 7)
                else
                  if v1 = 17 then
                    (I 145 1)
                  else
                    (I 147 1)
def mi_X8_count (F : Nat) (I : Nat → Nat → Int32) (R : Nat → Nat → Option Nat) (v1 : Int32) : Option (Int32) :=
  if v1 < 0 then
    some (-1002)
  else
    if v1 ≤ 18 then
      if 8 < v1 then
        some (mi_X8_countOthers I v1)
      else
        mc_ob (mi_X8_countOnCable F I R v1) fun r5 =>
        some r5
    else
      some (-1002)

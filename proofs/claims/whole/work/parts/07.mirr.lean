-- mirrors of the reference (by wip/whole/gen/gen_parts.py)
def mi_X9_in (v0 : Int32) (v1 : Int32) (v2 : Int32) : Int32 :=
  if v0 < v1 then
    0
  else
    if v2 < v0 then
      0
    else
      1
def mi_X9_flag (v0 : Int32) : Int32 :=
  if v0 = 0 then
    0
  else
    1
def mi_X9_size (v0 : Int32) : Int32 :=
  if 0 ≤ v0 then
    v0
  else
    (-v0)
def mi_X9_copies_B2 (k2 : (Nat → Nat → Int32) → Int32 → Int32 → Int32 → (Option ((Nat → Nat → Int32)))) (F : Nat) (I : Nat → Nat → Int32) (v1 : Int32) (v2 : Int32) (v3 : Int32) : Option ((Nat → Nat → Int32)) :=
  if 177 ≤ v3 then
    some I
  else
    if (((177 * v1) + v3) < 0 ∨ 1416 ≤ ((177 * v1) + v3).toNatClampNeg) then none else
    if (((177 * v2) + v3) < 0 ∨ 1416 ≤ ((177 * v2) + v3).toNatClampNeg) then none else
    mc_bn (mc_u I 1 ((177 * v2) + v3).toNatClampNeg (I 1 ((177 * v1) + v3).toNatClampNeg)) fun I4 =>
    mc_bn ((v3 + 1)) fun x5 =>
    k2 I4 v1 v2 x5
def mi_X9_copies_L2 (F : Nat) : Nat → (Nat → Nat → Int32) → Int32 → Int32 → Int32 → (Option ((Nat → Nat → Int32)))
  | 0, _, _, _, _ => none
  | n + 1, I, v1, v2, v3 => mi_X9_copies_B2  (mi_X9_copies_L2 F n) F I v1 v2 v3
def mi_X9_copies (F : Nat) (I : Nat → Nat → Int32) (v1 : Int32) (v2 : Int32) : Option ((Nat → Nat → Int32)) :=
  mi_X9_copies_L2 F F I v1 v2 0
def mi_X9_records_J39 (F : Nat) (I : Nat → Nat → Int32) (v1 : Int32) : Option ((Nat → Nat → Int32)) :=
  mc_bn (mc_u I 0 1 ((I 0 1) + 1)) fun I2 =>
  mc_ob (mi_X9_copies F I2 v1 (I2 0 1)) fun I3 =>
  some I3
def mi_X9_records_B10 (k10 : (Nat → Nat → Int32) → Int32 → Int32 → (Option ((Nat → Nat → Int32)))) (F : Nat) (I : Nat → Nat → Int32) (v1 : Int32) (v2 : Int32) : Option ((Nat → Nat → Int32)) :=
  if 4 ≤ v2 then
    mc_bn (mc_u I 0 1 ((I 0 1) - 1)) fun I6 =>
    mi_X9_records_J39 F I6 v1
  else
    mc_ob (mi_X9_copies F I (v2 + 1) v2) fun I7 =>
    mc_bn ((v2 + 1)) fun x9 =>
    k10 I7 v1 x9
def mi_X9_records_L10 (F : Nat) : Nat → (Nat → Nat → Int32) → Int32 → Int32 → (Option ((Nat → Nat → Int32)))
  | 0, _, _, _ => none
  | n + 1, I, v1, v2 => mi_X9_records_B10  (mi_X9_records_L10 F n) F I v1 v2
def mi_X9_records (F : Nat) (I : Nat → Nat → Int32) (v1 : Int32) : Option ((Nat → Nat → Int32)) :=
  if (I 0 1) = 4 then
    mi_X9_records_L10 F F I v1 1
  else
    mi_X9_records_J39 F I v1
def mi_X9_bottleAt (v0 : Int32) (v1 : Int32) : Int32 :=
  ((v0 + 33) + (12 * v1))
def mi_X9_messengerAt (v0 : Int32) (v1 : Int32) : Int32 :=
  ((v0 + 153) + (2 * v1))
def mi_X9_counted (I : Nat → Nat → Int32) (v1 : Int32) : Option (Int32) :=
  if ((v1 + 2) < 0 ∨ 1416 ≤ (v1 + 2).toNatClampNeg) then none else
  if ((v1 + 3) < 0 ∨ 1416 ≤ (v1 + 3).toNatClampNeg) then none else
  mc_bn (((I 1 (v1 + 2).toNatClampNeg) + (2 * (I 1 (v1 + 3).toNatClampNeg)))) fun x3 =>
  if x3 ≤ 6 then
    some x3
  else
    some 6
def mi_X9_factor (v0 : Int32) : Int32 :=
  if v0 = 0 then
    1000
  else
    if v0 = 1 then
      985
    else
      if v0 = 2 then
        940
      else
        if v0 = 3 then
          866
        else
          if v0 = 4 then
            766
          else
            if v0 = 5 then
              643
            else
              500
def mi_X9_deep (v0 : Int32) (v1 : Int32) : Int32 :=
  ((v0 * (mi_X9_factor v1)) / 1000)
def mi_X9_isInWater (I : Nat → Nat → Int32) (v1 : Int32) (v2 : Int32) : Option (Int32) :=
  if ((mi_X9_bottleAt v1 v2) < 0 ∨ 1416 ≤ (mi_X9_bottleAt v1 v2).toNatClampNeg) then none else
  if ((v1 + 1) < 0 ∨ 1416 ≤ (v1 + 1).toNatClampNeg) then none else
  if (I 1 (v1 + 1).toNatClampNeg) ≤ (I 1 (mi_X9_bottleAt v1 v2).toNatClampNeg) then
    some 0
  else
    some 1
def mi_X9_metre (I : Nat → Nat → Int32) (v1 : Int32) (v2 : Int32) : Option (Int32) :=
  mc_ob (mi_X9_isInWater I v1 v2) fun r1 =>
  if r1 = 0 then
    some 0
  else
    if ((v1 + 1) < 0 ∨ 1416 ≤ (v1 + 1).toNatClampNeg) then none else
    if ((mi_X9_bottleAt v1 v2) < 0 ∨ 1416 ≤ (mi_X9_bottleAt v1 v2).toNatClampNeg) then none else
    some ((I 1 (v1 + 1).toNatClampNeg) - (I 1 (mi_X9_bottleAt v1 v2).toNatClampNeg))
def mi_X9_layerOf (v0 : Int32) : Int32 :=
  if (v0 / 100) ≤ 9 then
    (v0 / 100)
  else
    9
def mi_X9_shuts (I : Nat → Nat → Int32) (v1 : Int32) (v2 : Int32) : Option ((Nat → Nat → Int32)) :=
  mc_bn ((mi_X9_bottleAt v1 v2)) fun x2 =>
  mc_ob (mi_X9_metre I v1 v2) fun r3 =>
  mc_ob (mi_X9_counted I v1) fun r5 =>
  mc_bn ((mi_X9_deep r3 r5)) fun x8 =>
  mc_bn ((mi_X9_layerOf x8)) fun x10 =>
  if ((x2 + 1) < 0 ∨ 1416 ≤ (x2 + 1).toNatClampNeg) then none else
  mc_bn (mc_u I 1 (x2 + 1).toNatClampNeg 1) fun I12 =>
  if ((v1 + 0) < 0 ∨ 1416 ≤ (v1 + 0).toNatClampNeg) then none else
  if ((x2 + 5) < 0 ∨ 1416 ≤ (x2 + 5).toNatClampNeg) then none else
  mc_bn (mc_u I12 1 (x2 + 5).toNatClampNeg (I12 1 (v1 + 0).toNatClampNeg)) fun I15 =>
  if (((v1 + 13) + (2 * x10)) < 0 ∨ 1416 ≤ ((v1 + 13) + (2 * x10)).toNatClampNeg) then none else
  if ((x2 + 6) < 0 ∨ 1416 ≤ (x2 + 6).toNatClampNeg) then none else
  mc_bn (mc_u I15 1 (x2 + 6).toNatClampNeg (I15 1 ((v1 + 13) + (2 * x10)).toNatClampNeg)) fun I18 =>
  if (((v1 + 13) + (2 * x10)) < 0 ∨ 1416 ≤ ((v1 + 13) + (2 * x10)).toNatClampNeg) then none else
  if ((x2 + 7) < 0 ∨ 1416 ≤ (x2 + 7).toNatClampNeg) then none else
  mc_bn (mc_u I18 1 (x2 + 7).toNatClampNeg ((I18 1 ((v1 + 13) + (2 * x10)).toNatClampNeg) + (x8 / 10))) fun I21 =>
  if ((((v1 + 13) + (2 * x10)) + 1) < 0 ∨ 1416 ≤ (((v1 + 13) + (2 * x10)) + 1).toNatClampNeg) then none else
  if ((x2 + 8) < 0 ∨ 1416 ≤ (x2 + 8).toNatClampNeg) then none else
  mc_bn (mc_u I21 1 (x2 + 8).toNatClampNeg (I21 1 (((v1 + 13) + (2 * x10)) + 1).toNatClampNeg)) fun I24 =>
  mc_ob (mi_X9_metre I24 v1 v2) fun r25 =>
  if ((x2 + 9) < 0 ∨ 1416 ≤ (x2 + 9).toNatClampNeg) then none else
  mc_bn (mc_u I24 1 (x2 + 9).toNatClampNeg r25) fun I28 =>
  if ((x2 + 10) < 0 ∨ 1416 ≤ (x2 + 10).toNatClampNeg) then none else
  mc_bn (mc_u I28 1 (x2 + 10).toNatClampNeg x10) fun I30 =>
  some I30
def mi_X9_removes_B18 (k18 : (Nat → Nat → Int32) → Int32 → Int32 → (Option ((Nat → Nat → Int32)))) (F : Nat) (I : Nat → Nat → Int32) (v1 : Int32) (v3 : Int32) : Option ((Nat → Nat → Int32)) :=
  if ((v1 + 5) < 0 ∨ 1416 ≤ (v1 + 5).toNatClampNeg) then none else
  if (mi_X9_messengerAt v1 (I 1 (v1 + 5).toNatClampNeg)) ≤ v3 then
    some I
  else
    if ((v3 + 2) < 0 ∨ 1416 ≤ (v3 + 2).toNatClampNeg) then none else
    if (v3 < 0 ∨ 1416 ≤ v3.toNatClampNeg) then none else
    mc_bn (mc_u I 1 v3.toNatClampNeg (I 1 (v3 + 2).toNatClampNeg)) fun I11 =>
    mc_bn ((v3 + 1)) fun x12 =>
    k18 I11 v1 x12
def mi_X9_removes_L18 (F : Nat) : Nat → (Nat → Nat → Int32) → Int32 → Int32 → (Option ((Nat → Nat → Int32)))
  | 0, _, _, _ => none
  | n + 1, I, v1, v3 => mi_X9_removes_B18  (mi_X9_removes_L18 F n) F I v1 v3
def mi_X9_removes (F : Nat) (I : Nat → Nat → Int32) (v1 : Int32) (v2 : Int32) : Option ((Nat → Nat → Int32)) :=
  if ((v1 + 5) < 0 ∨ 1416 ≤ (v1 + 5).toNatClampNeg) then none else
  if ((v1 + 5) < 0 ∨ 1416 ≤ (v1 + 5).toNatClampNeg) then none else
  mc_bn (mc_u I 1 (v1 + 5).toNatClampNeg ((I 1 (v1 + 5).toNatClampNeg) - 1)) fun I3 =>
  mc_bn ((mi_X9_messengerAt v1 v2)) fun x5 =>
  mi_X9_removes_L18 F F I3 v1 x5
def mi_X9_starts_J90 (F : Nat) (I : Nat → Nat → Int32) (v1 : Int32) (v2 : Int32) (v3 : Int32) (v4 : Int32) : Option ((Nat → Nat → Int32)) :=
  if ((mi_X9_messengerAt v1 v4) < 0 ∨ 1416 ≤ (mi_X9_messengerAt v1 v4).toNatClampNeg) then none else
  mc_bn (mc_u I 1 (mi_X9_messengerAt v1 v4).toNatClampNeg v2) fun I6 =>
  if (((mi_X9_messengerAt v1 v4) + 1) < 0 ∨ 1416 ≤ ((mi_X9_messengerAt v1 v4) + 1).toNatClampNeg) then none else
  mc_bn (mc_u I6 1 ((mi_X9_messengerAt v1 v4) + 1).toNatClampNeg v3) fun I9 =>
  if ((v1 + 5) < 0 ∨ 1416 ≤ (v1 + 5).toNatClampNeg) then none else
  if ((v1 + 5) < 0 ∨ 1416 ≤ (v1 + 5).toNatClampNeg) then none else
  mc_bn (mc_u I9 1 (v1 + 5).toNatClampNeg ((I9 1 (v1 + 5).toNatClampNeg) + 1)) fun I12 =>
  some I12
def mi_X9_starts_B10 (k10 : (Nat → Nat → Int32) → Int32 → Int32 → Int32 → Int32 → (Option ((Nat → Nat → Int32)))) (F : Nat) (I : Nat → Nat → Int32) (v1 : Int32) (v2 : Int32) (v3 : Int32) (v4 : Int32) : Option ((Nat → Nat → Int32)) :=
  if v4 ≤ 0 then
    mi_X9_starts_J90 F I v1 v2 v3 v4
  else
    if ((mi_X9_messengerAt v1 (v4 - 1)) < 0 ∨ 1416 ≤ (mi_X9_messengerAt v1 (v4 - 1)).toNatClampNeg) then none else
    if (I 1 (mi_X9_messengerAt v1 (v4 - 1)).toNatClampNeg) ≤ v2 then
      mi_X9_starts_J90 F I v1 v2 v3 v4
    else
      if ((mi_X9_messengerAt v1 (v4 - 1)) < 0 ∨ 1416 ≤ (mi_X9_messengerAt v1 (v4 - 1)).toNatClampNeg) then none else
      if ((mi_X9_messengerAt v1 v4) < 0 ∨ 1416 ≤ (mi_X9_messengerAt v1 v4).toNatClampNeg) then none else
      mc_bn (mc_u I 1 (mi_X9_messengerAt v1 v4).toNatClampNeg (I 1 (mi_X9_messengerAt v1 (v4 - 1)).toNatClampNeg)) fun I20 =>
      if (((mi_X9_messengerAt v1 (v4 - 1)) + 1) < 0 ∨ 1416 ≤ ((mi_X9_messengerAt v1 (v4 - 1)) + 1).toNatClampNeg) then none else
      if (((mi_X9_messengerAt v1 v4) + 1) < 0 ∨ 1416 ≤ ((mi_X9_messengerAt v1 v4) + 1).toNatClampNeg) then none else
      mc_bn (mc_u I20 1 ((mi_X9_messengerAt v1 v4) + 1).toNatClampNeg (I20 1 ((mi_X9_messengerAt v1 (v4 - 1)) + 1).toNatClampNeg)) fun I25 =>
      mc_bn ((v4 + (-1))) fun x26 =>
      k10 I25 v1 v2 v3 x26
def mi_X9_starts_L10 (F : Nat) : Nat → (Nat → Nat → Int32) → Int32 → Int32 → Int32 → Int32 → (Option ((Nat → Nat → Int32)))
  | 0, _, _, _, _, _ => none
  | n + 1, I, v1, v2, v3, v4 => mi_X9_starts_B10  (mi_X9_starts_L10 F n) F I v1 v2 v3 v4
def mi_X9_starts (F : Nat) (I : Nat → Nat → Int32) (v1 : Int32) (v2 : Int32) (v3 : Int32) : Option ((Nat → Nat → Int32)) :=
  if ((v1 + 5) < 0 ∨ 1416 ≤ (v1 + 5).toNatClampNeg) then none else
  mc_bn ((I 1 (v1 + 5).toNatClampNeg)) fun x2 =>
  mi_X9_starts_L10 F F I v1 v2 v3 x2
def mi_X9_met_B8 (k8 : (Nat → Nat → Int32) → Int32 → Int32 → Int32 → Int32 → Int32 → Option (Int32)) (F : Nat) (I : Nat → Nat → Int32) (v1 : Int32) (v2 : Int32) (v3 : Int32) (v4 : Int32) (v5 : Int32) : Option (Int32) :=
  if ((v1 + 4) < 0 ∨ 1416 ≤ (v1 + 4).toNatClampNeg) then none else
  if (I 1 (v1 + 4).toNatClampNeg) ≤ v5 then
    some v4
  else
    if ((mi_X9_bottleAt v1 v5) < 0 ∨ 1416 ≤ (mi_X9_bottleAt v1 v5).toNatClampNeg) then none else
    mc_bn ((I 1 (mi_X9_bottleAt v1 v5).toNatClampNeg)) fun x5 =>
    mc_ob (mi_X9_isInWater I v1 v5) fun r6 =>
    if r6 = 0 then
      mc_bn ((v5 + 1)) fun x10 =>
      k8 I v1 v2 v3 v4 x10
    else
      if v2 ≤ x5 then
        mc_bn ((v5 + 1)) fun x12 =>
        k8 I v1 v2 v3 v4 x12
      else
        if x5 < v3 then
          mc_bn ((v5 + 1)) fun x14 =>
          k8 I v1 v2 v3 v4 x14
        else
          mc_bn ((v5 + 1)) fun x15 =>
          k8 I v1 v2 v3 v5 x15
def mi_X9_met_L8 (F : Nat) : Nat → (Nat → Nat → Int32) → Int32 → Int32 → Int32 → Int32 → Int32 → Option (Int32)
  | 0, _, _, _, _, _, _ => none
  | n + 1, I, v1, v2, v3, v4, v5 => mi_X9_met_B8  (mi_X9_met_L8 F n) F I v1 v2 v3 v4 v5
def mi_X9_met (F : Nat) (I : Nat → Nat → Int32) (v1 : Int32) (v2 : Int32) (v3 : Int32) : Option (Int32) :=
  mi_X9_met_L8 F F I v1 v2 v3 (-1005) 0
def mi_X9_strikes (F : Nat) (I : Nat → Nat → Int32) (v1 : Int32) (v2 : Int32) : Option ((Nat → Nat → Int32) × Int32) :=
  mc_bn ((mi_X9_bottleAt v1 v2)) fun x2 =>
  if ((x2 + 3) < 0 ∨ 1416 ≤ (x2 + 3).toNatClampNeg) then none else
  if ((x2 + 3) < 0 ∨ 1416 ≤ (x2 + 3).toNatClampNeg) then none else
  mc_bn (mc_u I 1 (x2 + 3).toNatClampNeg ((I 1 (x2 + 3).toNatClampNeg) + 1)) fun I5 =>
  if ((v1 + 8) < 0 ∨ 1416 ≤ (v1 + 8).toNatClampNeg) then none else
  if ((v1 + 8) < 0 ∨ 1416 ≤ (v1 + 8).toNatClampNeg) then none else
  mc_bn (mc_u I5 1 (v1 + 8).toNatClampNeg ((I5 1 (v1 + 8).toNatClampNeg) + 1)) fun I8 =>
  if ((x2 + 1) < 0 ∨ 1416 ≤ (x2 + 1).toNatClampNeg) then none else
  if (I8 1 (x2 + 1).toNatClampNeg) = 1 then
    some (I8, 0)
  else
    mc_ob (mi_X9_shuts I8 v1 v2) fun I11 =>
    if ((x2 + 2) < 0 ∨ 1416 ≤ (x2 + 2).toNatClampNeg) then none else
    if (I11 1 (x2 + 2).toNatClampNeg) = 1 then
      if ((x2 + 2) < 0 ∨ 1416 ≤ (x2 + 2).toNatClampNeg) then none else
      mc_bn (mc_u I11 1 (x2 + 2).toNatClampNeg 0) fun I16 =>
      if ((v1 + 7) < 0 ∨ 1416 ≤ (v1 + 7).toNatClampNeg) then none else
      if ((v1 + 7) < 0 ∨ 1416 ≤ (v1 + 7).toNatClampNeg) then none else
      mc_bn (mc_u I16 1 (v1 + 7).toNatClampNeg ((I16 1 (v1 + 7).toNatClampNeg) + 1)) fun I19 =>
      if (x2 < 0 ∨ 1416 ≤ x2.toNatClampNeg) then none else
      mc_ob (mi_X9_starts F I19 v1 (I19 1 x2.toNatClampNeg) 1) fun I21 =>
      some (I21, 1)
    else
      some (I11, 1)
def mi_X9_second_B216 (k216 : (Nat → Nat → Int32) → Int32 → Int32 → Int32 → (Option ((Nat → Nat → Int32) × Int32))) (F : Nat) (I : Nat → Nat → Int32) (v1 : Int32) (v4 : Int32) (v6 : Int32) : Option ((Nat → Nat → Int32) × Int32) :=
  if ((v1 + 5) < 0 ∨ 1416 ≤ (v1 + 5).toNatClampNeg) then none else
  if (I 1 (v1 + 5).toNatClampNeg) ≤ v6 then
    some (I, v4)
  else
    if (((mi_X9_messengerAt v1 v6) + 1) < 0 ∨ 1416 ≤ ((mi_X9_messengerAt v1 v6) + 1).toNatClampNeg) then none else
    mc_bn (mc_u I 1 ((mi_X9_messengerAt v1 v6) + 1).toNatClampNeg 0) fun I15 =>
    mc_bn ((v6 + 1)) fun x16 =>
    k216 I15 v1 v4 x16
def mi_X9_second_L216 (F : Nat) : Nat → (Nat → Nat → Int32) → Int32 → Int32 → Int32 → (Option ((Nat → Nat → Int32) × Int32))
  | 0, _, _, _, _ => none
  | n + 1, I, v1, v4, v6 => mi_X9_second_B216  (mi_X9_second_L216 F n) F I v1 v4 v6
def mi_X9_second_B45 (k45 : (Nat → Nat → Int32) → Int32 → Int32 → Int32 → Int32 → (Option ((Nat → Nat → Int32) × Int32))) (F : Nat) (I : Nat → Nat → Int32) (v1 : Int32) (v3 : Int32) (v4 : Int32) (v5 : Int32) : Option ((Nat → Nat → Int32) × Int32) :=
  if ((v1 + 5) < 0 ∨ 1416 ≤ (v1 + 5).toNatClampNeg) then none else
  if (I 1 (v1 + 5).toNatClampNeg) ≤ v5 then
    mi_X9_second_L216 F F I v1 v4 0
  else
    mc_bn ((mi_X9_messengerAt v1 v5)) fun x18 =>
    if (x18 < 0 ∨ 1416 ≤ x18.toNatClampNeg) then none else
    mc_bn ((I 1 x18.toNatClampNeg)) fun x20 =>
    mc_ob (mi_X9_met F I v1 x20 (x20 - v3)) fun r21 =>
    if ((x18 + 1) < 0 ∨ 1416 ≤ (x18 + 1).toNatClampNeg) then none else
    if (I 1 (x18 + 1).toNatClampNeg) = 1 then
      mc_bn ((v5 + 1)) fun x47 =>
      k45 I v1 v3 v4 x47
    else
      if r21 = (-1005) then
        if 0 < (x20 - v3) then
          if (x18 < 0 ∨ 1416 ≤ x18.toNatClampNeg) then none else
          mc_bn (mc_u I 1 x18.toNatClampNeg (x20 - v3)) fun I28 =>
          mc_bn ((v5 + 1)) fun x29 =>
          k45 I28 v1 v3 v4 x29
        else
          mc_ob (mi_X9_removes F I v1 v5) fun I30 =>
          if ((v1 + 9) < 0 ∨ 1416 ≤ (v1 + 9).toNatClampNeg) then none else
          if ((v1 + 9) < 0 ∨ 1416 ≤ (v1 + 9).toNatClampNeg) then none else
          mc_bn (mc_u I30 1 (v1 + 9).toNatClampNeg ((I30 1 (v1 + 9).toNatClampNeg) + 1)) fun I34 =>
          k45 I34 v1 v3 v4 v5
      else
        mc_ob (mi_X9_removes F I v1 v5) fun I35 =>
        if ((v1 + 5) < 0 ∨ 1416 ≤ (v1 + 5).toNatClampNeg) then none else
        mc_bn ((I35 1 (v1 + 5).toNatClampNeg)) fun x38 =>
        mc_ob2 (mi_X9_strikes F I35 v1 r21) fun I39 r40 =>
        mc_bn ((v4 + (mi_X9_flag r40))) fun x44 =>
        if ((v1 + 5) < 0 ∨ 1416 ≤ (v1 + 5).toNatClampNeg) then none else
        mc_bn ((v5 + ((I39 1 (v1 + 5).toNatClampNeg) - x38))) fun x46 =>
        k45 I39 v1 v3 x44 x46
def mi_X9_second_L45 (F : Nat) : Nat → (Nat → Nat → Int32) → Int32 → Int32 → Int32 → Int32 → (Option ((Nat → Nat → Int32) × Int32))
  | 0, _, _, _, _, _ => none
  | n + 1, I, v1, v3, v4, v5 => mi_X9_second_B45  (mi_X9_second_L45 F n) F I v1 v3 v4 v5
def mi_X9_second (F : Nat) (I : Nat → Nat → Int32) (v1 : Int32) : Option ((Nat → Nat → Int32) × Int32) :=
  if ((v1 + 0) < 0 ∨ 1416 ≤ (v1 + 0).toNatClampNeg) then none else
  if ((v1 + 0) < 0 ∨ 1416 ≤ (v1 + 0).toNatClampNeg) then none else
  mc_bn (mc_u I 1 (v1 + 0).toNatClampNeg ((I 1 (v1 + 0).toNatClampNeg) + 1)) fun I3 =>
  mc_ob (mi_X9_counted I3 v1) fun r4 =>
  if r4 = 6 then
    some (I3, 0)
  else
    if r4 ≤ 4 then
      mc_bn ((5 - r4)) fun x8 =>
      mi_X9_second_L45 F F I3 v1 x8 0 0
    else
      mi_X9_second_L45 F F I3 v1 1 0 0
def mi_X9_seconds_B5 (k5 : (Nat → Nat → Int32) → Int32 → Int32 → Int32 → Int32 → (Option ((Nat → Nat → Int32) × Int32))) (F : Nat) (I : Nat → Nat → Int32) (v1 : Int32) (v2 : Int32) (v3 : Int32) (v4 : Int32) : Option ((Nat → Nat → Int32) × Int32) :=
  if v2 ≤ v4 then
    some (I, v3)
  else
    mc_ob2 (mi_X9_second F I v1) fun I2 r3 =>
    mc_bn ((v3 + r3)) fun x5 =>
    mc_bn ((v4 + 1)) fun x6 =>
    k5 I2 v1 v2 x5 x6
def mi_X9_seconds_L5 (F : Nat) : Nat → (Nat → Nat → Int32) → Int32 → Int32 → Int32 → Int32 → (Option ((Nat → Nat → Int32) × Int32))
  | 0, _, _, _, _, _ => none
  | n + 1, I, v1, v2, v3, v4 => mi_X9_seconds_B5  (mi_X9_seconds_L5 F n) F I v1 v2 v3 v4
def mi_X9_seconds (F : Nat) (I : Nat → Nat → Int32) (v1 : Int32) (v2 : Int32) : Option ((Nat → Nat → Int32) × Int32) :=
  mi_X9_seconds_L5 F F I v1 v2 0 0
def mi_X9_jerks_B13 (k13 : (Nat → Nat → Int32) → Int32 → Int32 → (Option ((Nat → Nat → Int32)))) (F : Nat) (I : Nat → Nat → Int32) (v1 : Int32) (v2 : Int32) : Option ((Nat → Nat → Int32)) :=
  if v2 < 0 then
    if v1 = (-1005) then
      some I
    else
      mc_ob (mi_X9_shuts I 0 v1) fun I5 =>
      if (((mi_X9_bottleAt 0 v1) + 4) < 0 ∨ 1416 ≤ ((mi_X9_bottleAt 0 v1) + 4).toNatClampNeg) then none else
      mc_bn (mc_u I5 1 ((mi_X9_bottleAt 0 v1) + 4).toNatClampNeg 1) fun I9 =>
      some I9
  else
    mc_ob (mi_X9_isInWater I 0 v2) fun r10 =>
    if r10 = 0 then
      mc_bn ((v2 + (-1))) fun x14 =>
      k13 I v1 x14
    else
      if (((mi_X9_bottleAt 0 v2) + 1) < 0 ∨ 1416 ≤ ((mi_X9_bottleAt 0 v2) + 1).toNatClampNeg) then none else
      if (I 1 ((mi_X9_bottleAt 0 v2) + 1).toNatClampNeg) = 0 then
        mc_bn ((v2 + (-1))) fun x19 =>
        k13 I v2 x19
      else
        mc_bn ((v2 + (-1))) fun x18 =>
        k13 I v1 x18
def mi_X9_jerks_L13 (F : Nat) : Nat → (Nat → Nat → Int32) → Int32 → Int32 → (Option ((Nat → Nat → Int32)))
  | 0, _, _, _ => none
  | n + 1, I, v1, v2 => mi_X9_jerks_B13  (mi_X9_jerks_L13 F n) F I v1 v2
def mi_X9_jerks (F : Nat) (I : Nat → Nat → Int32) : Option ((Nat → Nat → Int32)) :=
  if ((4 : Int32) < 0 ∨ 1416 ≤ (4 : Int32).toNatClampNeg) then none else
  mc_bn (((I 1 (4 : Int32).toNatClampNeg) - 1)) fun x2 =>
  mi_X9_jerks_L13 F F I (-1005) x2
def mi_X9_pays_J117 (F : Nat) (I : Nat → Nat → Int32) (v1 : Int32) (v2 : Int32) : Option ((Nat → Nat → Int32) × Int32) :=
  if ((10 : Int32) < 0 ∨ 1416 ≤ (10 : Int32).toNatClampNeg) then none else
  if ((10 : Int32) < 0 ∨ 1416 ≤ (10 : Int32).toNatClampNeg) then none else
  mc_bn (mc_u I 1 (10 : Int32).toNatClampNeg ((I 1 (10 : Int32).toNatClampNeg) + v2)) fun I16 =>
  if ((12 : Int32) < 0 ∨ 1416 ≤ (12 : Int32).toNatClampNeg) then none else
  if (mi_X9_size v1) ≤ (I16 1 (12 : Int32).toNatClampNeg) then
    some (I16, v2)
  else
    mc_ob (mi_X9_jerks F I16) fun I20 =>
    some (I20, v2)
def mi_X9_pays_B66 (k66 : (Nat → Nat → Int32) → Int32 → Int32 → (Option ((Nat → Nat → Int32) × Int32))) (F : Nat) (I : Nat → Nat → Int32) (v1 : Int32) (v2 : Int32) : Option ((Nat → Nat → Int32) × Int32) :=
  if ((5 : Int32) < 0 ∨ 1416 ≤ (5 : Int32).toNatClampNeg) then none else
  if (I 1 (5 : Int32).toNatClampNeg) ≤ 0 then
    mi_X9_pays_J117 F I v1 v2
  else
    if ((5 : Int32) < 0 ∨ 1416 ≤ (5 : Int32).toNatClampNeg) then none else
    if ((mi_X9_messengerAt 0 ((I 1 (5 : Int32).toNatClampNeg) - 1)) < 0 ∨ 1416 ≤ (mi_X9_messengerAt 0 ((I 1 (5 : Int32).toNatClampNeg) - 1)).toNatClampNeg) then none else
    if ((1 : Int32) < 0 ∨ 1416 ≤ (1 : Int32).toNatClampNeg) then none else
    if (I 1 (mi_X9_messengerAt 0 ((I 1 (5 : Int32).toNatClampNeg) - 1)).toNatClampNeg) ≤ (I 1 (1 : Int32).toNatClampNeg) then
      mi_X9_pays_J117 F I v1 v2
    else
      if ((5 : Int32) < 0 ∨ 1416 ≤ (5 : Int32).toNatClampNeg) then none else
      if ((5 : Int32) < 0 ∨ 1416 ≤ (5 : Int32).toNatClampNeg) then none else
      mc_bn (mc_u I 1 (5 : Int32).toNatClampNeg ((I 1 (5 : Int32).toNatClampNeg) - 1)) fun I29 =>
      mc_bn ((v2 + 1)) fun x30 =>
      k66 I29 v1 x30
def mi_X9_pays_L66 (F : Nat) : Nat → (Nat → Nat → Int32) → Int32 → Int32 → (Option ((Nat → Nat → Int32) × Int32))
  | 0, _, _, _ => none
  | n + 1, I, v1, v2 => mi_X9_pays_B66  (mi_X9_pays_L66 F n) F I v1 v2
def mi_X9_pays (F : Nat) (I : Nat → Nat → Int32) (v1 : Int32) : Option ((Nat → Nat → Int32) × Int32) :=
  if v1 = 0 then
    some (I, (-1002))
  else
    if (mi_X9_in v1 (-999) 999) = 0 then
      some (I, (-1002))
    else
      if ((1 : Int32) < 0 ∨ 1416 ≤ (1 : Int32).toNatClampNeg) then none else
      if 0 ≤ ((I 1 (1 : Int32).toNatClampNeg) + v1) then
        if ((1 : Int32) < 0 ∨ 1416 ≤ (1 : Int32).toNatClampNeg) then none else
        if ((I 1 (1 : Int32).toNatClampNeg) + v1) ≤ 999 then
          if ((1 : Int32) < 0 ∨ 1416 ≤ (1 : Int32).toNatClampNeg) then none else
          if ((1 : Int32) < 0 ∨ 1416 ≤ (1 : Int32).toNatClampNeg) then none else
          mc_bn (mc_u I 1 (1 : Int32).toNatClampNeg ((I 1 (1 : Int32).toNatClampNeg) + v1)) fun I11 =>
          mi_X9_pays_L66 F F I11 v1 0
        else
          some (I, (-1003))
      else
        some (I, (-1004))
def mi_X9_slopes (I : Nat → Nat → Int32) (v1 : Int32) : Option ((Nat → Nat → Int32) × Int32) :=
  if (mi_X9_in v1 0 6) = 0 then
    some (I, (-1002))
  else
    if ((2 : Int32) < 0 ∨ 1416 ≤ (2 : Int32).toNatClampNeg) then none else
    mc_bn ((I 1 (2 : Int32).toNatClampNeg)) fun x5 =>
    if ((2 : Int32) < 0 ∨ 1416 ≤ (2 : Int32).toNatClampNeg) then none else
    mc_bn (mc_u I 1 (2 : Int32).toNatClampNeg v1) fun I7 =>
    if x5 = v1 then
      some (I7, (-1005))
    else
      some (I7, x5)
def mi_X9_weighs_J27 (I : Nat → Nat → Int32) (v1 : Int32) : Option ((Nat → Nat → Int32) × Int32) :=
  if ((3 : Int32) < 0 ∨ 1416 ≤ (3 : Int32).toNatClampNeg) then none else
  mc_bn ((I 1 (3 : Int32).toNatClampNeg)) fun x3 =>
  if ((3 : Int32) < 0 ∨ 1416 ≤ (3 : Int32).toNatClampNeg) then none else
  mc_bn (mc_u I 1 (3 : Int32).toNatClampNeg v1) fun I5 =>
  if x3 = v1 then
    some (I5, (-1005))
  else
    mc_ob (mi_X9_counted I5 0) fun r7 =>
    some (I5, r7)
def mi_X9_weighs (I : Nat → Nat → Int32) (v1 : Int32) : Option ((Nat → Nat → Int32) × Int32) :=
  if v1 = 0 then
    if ((3 : Int32) < 0 ∨ 1416 ≤ (3 : Int32).toNatClampNeg) then none else
    if (I 1 (3 : Int32).toNatClampNeg) = 1 then
      if ((1 : Int32) < 0 ∨ 1416 ≤ (1 : Int32).toNatClampNeg) then none else
      if (I 1 (1 : Int32).toNatClampNeg) ≤ 0 then
        mi_X9_weighs_J27 I v1
      else
        some (I, (-1004))
    else
      mi_X9_weighs_J27 I v1
  else
    mi_X9_weighs_J27 I v1
def mi_X9_clamps_B138 (k138 : (Nat → Nat → Int32) → Int32 → Int32 → Int32 → (Option ((Nat → Nat → Int32) × Int32))) (F : Nat) (I : Nat → Nat → Int32) (v1 : Int32) (v2 : Int32) (v3 : Int32) : Option ((Nat → Nat → Int32) × Int32) :=
  if 12 ≤ v3 then
    if ((4 : Int32) < 0 ∨ 1416 ≤ (4 : Int32).toNatClampNeg) then none else
    if ((4 : Int32) < 0 ∨ 1416 ≤ (4 : Int32).toNatClampNeg) then none else
    mc_bn (mc_u I 1 (4 : Int32).toNatClampNeg ((I 1 (4 : Int32).toNatClampNeg) + 1)) fun I13 =>
    some (I13, v2)
  else
    if v3 = 0 then
      if ((1 : Int32) < 0 ∨ 1416 ≤ (1 : Int32).toNatClampNeg) then none else
      if (((mi_X9_bottleAt 0 v2) + v3) < 0 ∨ 1416 ≤ ((mi_X9_bottleAt 0 v2) + v3).toNatClampNeg) then none else
      mc_bn (mc_u I 1 ((mi_X9_bottleAt 0 v2) + v3).toNatClampNeg (I 1 (1 : Int32).toNatClampNeg)) fun I25 =>
      mc_bn ((v3 + 1)) fun x26 =>
      k138 I25 v1 v2 x26
    else
      if v3 = 2 then
        if (((mi_X9_bottleAt 0 v2) + v3) < 0 ∨ 1416 ≤ ((mi_X9_bottleAt 0 v2) + v3).toNatClampNeg) then none else
        mc_bn (mc_u I 1 ((mi_X9_bottleAt 0 v2) + v3).toNatClampNeg v1) fun I21 =>
        mc_bn ((v3 + 1)) fun x22 =>
        k138 I21 v1 v2 x22
      else
        if (((mi_X9_bottleAt 0 v2) + v3) < 0 ∨ 1416 ≤ ((mi_X9_bottleAt 0 v2) + v3).toNatClampNeg) then none else
        mc_bn (mc_u I 1 ((mi_X9_bottleAt 0 v2) + v3).toNatClampNeg 0) fun I18 =>
        mc_bn ((v3 + 1)) fun x19 =>
        k138 I18 v1 v2 x19
def mi_X9_clamps_L138 (F : Nat) : Nat → (Nat → Nat → Int32) → Int32 → Int32 → Int32 → (Option ((Nat → Nat → Int32) × Int32))
  | 0, _, _, _, _ => none
  | n + 1, I, v1, v2, v3 => mi_X9_clamps_B138  (mi_X9_clamps_L138 F n) F I v1 v2 v3
def mi_X9_clamps_B106 (k106 : (Nat → Nat → Int32) → Int32 → Int32 → Int32 → (Option ((Nat → Nat → Int32) × Int32))) (F : Nat) (I : Nat → Nat → Int32) (v1 : Int32) (v2 : Int32) (v3 : Int32) : Option ((Nat → Nat → Int32) × Int32) :=
  if v3 < (mi_X9_bottleAt 0 v2) then
    mi_X9_clamps_L138 F F I v1 v2 0
  else
    if (v3 < 0 ∨ 1416 ≤ v3.toNatClampNeg) then none else
    if ((v3 + 12) < 0 ∨ 1416 ≤ (v3 + 12).toNatClampNeg) then none else
    mc_bn (mc_u I 1 (v3 + 12).toNatClampNeg (I 1 v3.toNatClampNeg)) fun I29 =>
    mc_bn ((v3 + (-1))) fun x30 =>
    k106 I29 v1 v2 x30
def mi_X9_clamps_L106 (F : Nat) : Nat → (Nat → Nat → Int32) → Int32 → Int32 → Int32 → (Option ((Nat → Nat → Int32) × Int32))
  | 0, _, _, _, _ => none
  | n + 1, I, v1, v2, v3 => mi_X9_clamps_B106  (mi_X9_clamps_L106 F n) F I v1 v2 v3
def mi_X9_clamps_B19 (k19 : (Nat → Nat → Int32) → Int32 → Int32 → Int32 → (Option ((Nat → Nat → Int32) × Int32))) (F : Nat) (I : Nat → Nat → Int32) (v1 : Int32) (v2 : Int32) (v3 : Int32) : Option ((Nat → Nat → Int32) × Int32) :=
  if ((4 : Int32) < 0 ∨ 1416 ≤ (4 : Int32).toNatClampNeg) then none else
  if (I 1 (4 : Int32).toNatClampNeg) ≤ v3 then
    if ((4 : Int32) < 0 ∨ 1416 ≤ (4 : Int32).toNatClampNeg) then none else
    mc_bn (((mi_X9_bottleAt 0 (I 1 (4 : Int32).toNatClampNeg)) - 1)) fun x7 =>
    mi_X9_clamps_L106 F F I v1 v2 x7
  else
    if ((mi_X9_bottleAt 0 v3) < 0 ∨ 1416 ≤ (mi_X9_bottleAt 0 v3).toNatClampNeg) then none else
    if ((1 : Int32) < 0 ∨ 1416 ≤ (1 : Int32).toNatClampNeg) then none else
    if 5 ≤ (mi_X9_size ((I 1 (mi_X9_bottleAt 0 v3).toNatClampNeg) - (I 1 (1 : Int32).toNatClampNeg))) then
      if ((mi_X9_bottleAt 0 v3) < 0 ∨ 1416 ≤ (mi_X9_bottleAt 0 v3).toNatClampNeg) then none else
      if ((1 : Int32) < 0 ∨ 1416 ≤ (1 : Int32).toNatClampNeg) then none else
      if (I 1 (1 : Int32).toNatClampNeg) ≤ (I 1 (mi_X9_bottleAt 0 v3).toNatClampNeg) then
        mc_bn ((v2 + (mi_X9_flag 0))) fun x41 =>
        mc_bn ((v3 + 1)) fun x42 =>
        k19 I v1 x41 x42
      else
        mc_bn ((v2 + (mi_X9_flag 1))) fun x44 =>
        mc_bn ((v3 + 1)) fun x45 =>
        k19 I v1 x44 x45
    else
      some (I, (-1004))
def mi_X9_clamps_L19 (F : Nat) : Nat → (Nat → Nat → Int32) → Int32 → Int32 → Int32 → (Option ((Nat → Nat → Int32) × Int32))
  | 0, _, _, _, _ => none
  | n + 1, I, v1, v2, v3 => mi_X9_clamps_B19  (mi_X9_clamps_L19 F n) F I v1 v2 v3
def mi_X9_clamps (F : Nat) (I : Nat → Nat → Int32) (v1 : Int32) : Option ((Nat → Nat → Int32) × Int32) :=
  if ((4 : Int32) < 0 ∨ 1416 ≤ (4 : Int32).toNatClampNeg) then none else
  if (I 1 (4 : Int32).toNatClampNeg) = 10 then
    some (I, (-1003))
  else
    mi_X9_clamps_L19 F F I v1 0 0
def mi_X9_sends (F : Nat) (I : Nat → Nat → Int32) : Option ((Nat → Nat → Int32) × Int32) :=
  if ((1 : Int32) < 0 ∨ 1416 ≤ (1 : Int32).toNatClampNeg) then none else
  if (I 1 (1 : Int32).toNatClampNeg) = 0 then
    some (I, (-1004))
  else
    if ((5 : Int32) < 0 ∨ 1416 ≤ (5 : Int32).toNatClampNeg) then none else
    if (I 1 (5 : Int32).toNatClampNeg) = 12 then
      some (I, (-1003))
    else
      if ((1 : Int32) < 0 ∨ 1416 ≤ (1 : Int32).toNatClampNeg) then none else
      mc_ob (mi_X9_starts F I 0 (I 1 (1 : Int32).toNatClampNeg) 0) fun I6 =>
      if ((6 : Int32) < 0 ∨ 1416 ≤ (6 : Int32).toNatClampNeg) then none else
      if ((6 : Int32) < 0 ∨ 1416 ≤ (6 : Int32).toNatClampNeg) then none else
      mc_bn (mc_u I6 1 (6 : Int32).toNatClampNeg ((I6 1 (6 : Int32).toNatClampNeg) + 1)) fun I10 =>
      if ((5 : Int32) < 0 ∨ 1416 ≤ (5 : Int32).toNatClampNeg) then none else
      some (I10, (I10 1 (5 : Int32).toNatClampNeg))
def mi_X9_passes (F : Nat) (I : Nat → Nat → Int32) (v1 : Int32) : Option ((Nat → Nat → Int32) × Int32) :=
  if (mi_X9_in v1 1 999) = 0 then
    some (I, (-1002))
  else
    if ((0 : Int32) < 0 ∨ 1416 ≤ (0 : Int32).toNatClampNeg) then none else
    if ((I 1 (0 : Int32).toNatClampNeg) + v1) ≤ 99999 then
      mc_ob2 (mi_X9_seconds F I 0 v1) fun I6 r7 =>
      some (I6, r7)
    else
      some (I, (-1003))
def mi_X9_isBottle (I : Nat → Nat → Int32) (v1 : Int32) : Option (Int32) :=
  if ((4 : Int32) < 0 ∨ 1416 ≤ (4 : Int32).toNatClampNeg) then none else
  some (mi_X9_in v1 0 ((I 1 (4 : Int32).toNatClampNeg) - 1))
def mi_X9_takes_B41 (k41 : (Nat → Nat → Int32) → Int32 → (Option ((Nat → Nat → Int32) × Int32))) (F : Nat) (I : Nat → Nat → Int32) (v2 : Int32) : Option ((Nat → Nat → Int32) × Int32) :=
  if ((4 : Int32) < 0 ∨ 1416 ≤ (4 : Int32).toNatClampNeg) then none else
  if (mi_X9_bottleAt 0 (I 1 (4 : Int32).toNatClampNeg)) ≤ v2 then
    if ((4 : Int32) < 0 ∨ 1416 ≤ (4 : Int32).toNatClampNeg) then none else
    some (I, (I 1 (4 : Int32).toNatClampNeg))
  else
    if ((v2 + 12) < 0 ∨ 1416 ≤ (v2 + 12).toNatClampNeg) then none else
    if (v2 < 0 ∨ 1416 ≤ v2.toNatClampNeg) then none else
    mc_bn (mc_u I 1 v2.toNatClampNeg (I 1 (v2 + 12).toNatClampNeg)) fun I20 =>
    mc_bn ((v2 + 1)) fun x21 =>
    k41 I20 x21
def mi_X9_takes_L41 (F : Nat) : Nat → (Nat → Nat → Int32) → Int32 → (Option ((Nat → Nat → Int32) × Int32))
  | 0, _, _ => none
  | n + 1, I, v2 => mi_X9_takes_B41  (mi_X9_takes_L41 F n) F I v2
def mi_X9_takes (F : Nat) (I : Nat → Nat → Int32) (v1 : Int32) : Option ((Nat → Nat → Int32) × Int32) :=
  mc_ob (mi_X9_isBottle I v1) fun r1 =>
  if r1 = 0 then
    some (I, (-1001))
  else
    mc_ob (mi_X9_isInWater I 0 v1) fun r5 =>
    if r5 = 0 then
      if ((4 : Int32) < 0 ∨ 1416 ≤ (4 : Int32).toNatClampNeg) then none else
      if ((4 : Int32) < 0 ∨ 1416 ≤ (4 : Int32).toNatClampNeg) then none else
      mc_bn (mc_u I 1 (4 : Int32).toNatClampNeg ((I 1 (4 : Int32).toNatClampNeg) - 1)) fun I11 =>
      mc_bn ((mi_X9_bottleAt 0 v1)) fun x13 =>
      mi_X9_takes_L41 F F I11 x13
    else
      some (I, (-1004))
def mi_X9_waters_J87 (I : Nat → Nat → Int32) (v2 : Int32) (v3 : Int32) (v4 : Int32) (v5 : Int32) (s0 : Int32) : Option ((Nat → Nat → Int32) × Int32) :=
  if (v4 < 0 ∨ 1416 ≤ v4.toNatClampNeg) then none else
  mc_bn (mc_u I 1 v4.toNatClampNeg v2) fun I16 =>
  if ((v4 + 1) < 0 ∨ 1416 ≤ (v4 + 1).toNatClampNeg) then none else
  mc_bn (mc_u I16 1 (v4 + 1).toNatClampNeg v3) fun I18 =>
  if s0 = 0 then
    some (I18, v5)
  else
    some (I18, (-1005))
def mi_X9_waters (I : Nat → Nat → Int32) (v1 : Int32) (v2 : Int32) (v3 : Int32) : Option ((Nat → Nat → Int32) × Int32) :=
  if (mi_X9_in v1 0 9) = 0 then
    some (I, (-1001))
  else
    if (mi_X9_in v2 (-20) 300) = 0 then
      some (I, (-1002))
    else
      if (mi_X9_in v3 0 420) = 0 then
        some (I, (-1002))
      else
        mc_bn ((13 + (2 * v1))) fun x10 =>
        if (x10 < 0 ∨ 1416 ≤ x10.toNatClampNeg) then none else
        mc_bn ((I 1 x10.toNatClampNeg)) fun x12 =>
        if (x10 < 0 ∨ 1416 ≤ x10.toNatClampNeg) then none else
        if (I 1 x10.toNatClampNeg) = v2 then
          if ((x10 + 1) < 0 ∨ 1416 ≤ (x10 + 1).toNatClampNeg) then none else
          if (I 1 (x10 + 1).toNatClampNeg) = v3 then
            mi_X9_waters_J87 I v2 v3 x10 x12 1
          else
            mi_X9_waters_J87 I v2 v3 x10 x12 0
        else
          mi_X9_waters_J87 I v2 v3 x10 x12 0
def mi_X9_sets (I : Nat → Nat → Int32) (v1 : Int32) (v2 : Int32) : Option ((Nat → Nat → Int32) × Int32) :=
  if (mi_X9_in v1 0 1) = 0 then
    some (I, (-1001))
  else
    if (mi_X9_in v2 v1 999) = 0 then
      some (I, (-1002))
    else
      if ((11 + v1) < 0 ∨ 1416 ≤ (11 + v1).toNatClampNeg) then none else
      mc_bn ((I 1 (11 + v1).toNatClampNeg)) fun x8 =>
      if ((11 + v1) < 0 ∨ 1416 ≤ (11 + v1).toNatClampNeg) then none else
      mc_bn (mc_u I 1 (11 + v1).toNatClampNeg v2) fun I10 =>
      if x8 = v2 then
        some (I10, (-1005))
      else
        some (I10, x8)
def mi_X9_isDone (v0 : Int32) : Int32 :=
  if v0 ≤ (-1001) then
    0
  else
    1
def mi_X9_done (F : Nat) (I : Nat → Nat → Int32) (v1 : Int32) : Option ((Nat → Nat → Int32) × Int32) :=
  if (mi_X9_isDone v1) = 0 then
    some (I, v1)
  else
    mc_ob (mi_X9_records F I 6) fun I4 =>
    some (I4, v1)
def mi_X9_pay (F : Nat) (I : Nat → Nat → Int32) (v1 : Int32) : Option ((Nat → Nat → Int32) × Int32) :=
  mc_ob (mi_X9_copies F I 0 6) fun I1 =>
  mc_ob2 (mi_X9_pays F I1 v1) fun I3 r4 =>
  mc_ob2 (mi_X9_done F I3 r4) fun I6 r7 =>
  some (I6, r7)
def mi_X9_setSlope (F : Nat) (I : Nat → Nat → Int32) (v1 : Int32) : Option ((Nat → Nat → Int32) × Int32) :=
  mc_ob (mi_X9_copies F I 0 6) fun I1 =>
  mc_ob2 (mi_X9_slopes I1 v1) fun I3 r4 =>
  mc_ob2 (mi_X9_done F I3 r4) fun I6 r7 =>
  some (I6, r7)
def mi_X9_weight (F : Nat) (I : Nat → Nat → Int32) (v1 : Int32) : Option ((Nat → Nat → Int32) × Int32) :=
  mc_ob (mi_X9_copies F I 0 6) fun I1 =>
  mc_ob2 (mi_X9_weighs I1 (mi_X9_flag v1)) fun I4 r5 =>
  mc_ob2 (mi_X9_done F I4 r5) fun I7 r8 =>
  some (I7, r8)
def mi_X9_clamp (F : Nat) (I : Nat → Nat → Int32) (v1 : Int32) : Option ((Nat → Nat → Int32) × Int32) :=
  mc_ob (mi_X9_copies F I 0 6) fun I1 =>
  mc_ob2 (mi_X9_clamps F I1 (mi_X9_flag v1)) fun I4 r5 =>
  mc_ob2 (mi_X9_done F I4 r5) fun I7 r8 =>
  some (I7, r8)
def mi_X9_takeOff (F : Nat) (I : Nat → Nat → Int32) (v1 : Int32) : Option ((Nat → Nat → Int32) × Int32) :=
  mc_ob (mi_X9_copies F I 0 6) fun I1 =>
  mc_ob2 (mi_X9_takes F I1 v1) fun I3 r4 =>
  mc_ob2 (mi_X9_done F I3 r4) fun I6 r7 =>
  some (I6, r7)
def mi_X9_send (F : Nat) (I : Nat → Nat → Int32) : Option ((Nat → Nat → Int32) × Int32) :=
  mc_ob (mi_X9_copies F I 0 6) fun I1 =>
  mc_ob2 (mi_X9_sends F I1) fun I3 r4 =>
  mc_ob2 (mi_X9_done F I3 r4) fun I6 r7 =>
  some (I6, r7)
def mi_X9_pass (F : Nat) (I : Nat → Nat → Int32) (v1 : Int32) : Option ((Nat → Nat → Int32) × Int32) :=
  mc_ob (mi_X9_copies F I 0 6) fun I1 =>
  mc_ob2 (mi_X9_passes F I1 v1) fun I3 r4 =>
  mc_ob2 (mi_X9_done F I3 r4) fun I6 r7 =>
  some (I6, r7)
def mi_X9_setWater (F : Nat) (I : Nat → Nat → Int32) (v1 : Int32) (v2 : Int32) (v3 : Int32) : Option ((Nat → Nat → Int32) × Int32) :=
  mc_ob (mi_X9_copies F I 0 6) fun I1 =>
  mc_ob2 (mi_X9_waters I1 v1 v2 v3) fun I3 r4 =>
  mc_ob2 (mi_X9_done F I3 r4) fun I6 r7 =>
  some (I6, r7)
def mi_X9_set (F : Nat) (I : Nat → Nat → Int32) (v1 : Int32) (v2 : Int32) : Option ((Nat → Nat → Int32) × Int32) :=
  mc_ob (mi_X9_copies F I 0 6) fun I1 =>
  mc_ob2 (mi_X9_sets I1 v1 v2) fun I3 r4 =>
  mc_ob2 (mi_X9_done F I3 r4) fun I6 r7 =>
  some (I6, r7)
def mi_X9_type (I : Nat → Nat → Int32) (v1 : Int32) : Option ((Nat → Nat → Int32) × Int32) :=
  if (I 0 4) = 60 then
    some (I, (-1003))
  else
    if ((I 0 4) < 0 ∨ 60 ≤ (I 0 4).toNatClampNeg) then none else
    mc_bn (mc_u I 2 (I 0 4).toNatClampNeg v1) fun I3 =>
    mc_bn (mc_u I3 0 4 ((I3 0 4) + 1)) fun I4 =>
    some (I4, (I4 0 4))
def mi_X9_clearText (I : Nat → Nat → Int32) : (Nat → Nat → Int32) × Int32 :=
  mc_bn ((I 0 4)) fun x1 =>
  mc_bn (mc_u I 0 4 0) fun I2 =>
  (I2, x1)
def mi_X9_readsNumber_J110 (k66 : (Nat → Nat → Int32) → Int32 → Int32 → Int32 → (Option ((Nat → Nat → Int32) × Int32))) (F : Nat) (I : Nat → Nat → Int32) (v2 : Int32) (s0 : Int32) : Option ((Nat → Nat → Int32) × Int32) :=
  mc_bn (mc_u I 0 7 ((I 0 7) + 1)) fun I5 =>
  if s0 ≤ 0 then
    k66 I5 v2 s0 0
  else
    if (I5 0 4) ≤ (I5 0 7) then
      k66 I5 v2 s0 0
    else
      if ((I5 0 7) < 0 ∨ 60 ≤ (I5 0 7).toNatClampNeg) then none else
      if (mi_X9_in (I5 2 (I5 0 7).toNatClampNeg) 48 57) = 0 then
        k66 I5 v2 s0 0
      else
        if ((I5 0 7) < 0 ∨ 60 ≤ (I5 0 7).toNatClampNeg) then none else
        if v2 < (((10 * s0) + (I5 2 (I5 0 7).toNatClampNeg)) - 48) then
          k66 I5 v2 s0 0
        else
          k66 I5 v2 s0 1
def mi_X9_readsNumber_B66 (k66 : (Nat → Nat → Int32) → Int32 → Int32 → Int32 → (Option ((Nat → Nat → Int32) × Int32))) (F : Nat) (I : Nat → Nat → Int32) (v2 : Int32) (v3 : Int32) (v4 : Int32) : Option ((Nat → Nat → Int32) × Int32) :=
  if v4 = 0 then
    some (I, v3)
  else
    if v3 = (-1005) then
      if ((I 0 7) < 0 ∨ 60 ≤ (I 0 7).toNatClampNeg) then none else
      mi_X9_readsNumber_J110 k66 F I v2 ((I 2 (I 0 7).toNatClampNeg) - 48)
    else
      if ((I 0 7) < 0 ∨ 60 ≤ (I 0 7).toNatClampNeg) then none else
      mi_X9_readsNumber_J110 k66 F I v2 (((10 * v3) + (I 2 (I 0 7).toNatClampNeg)) - 48)
def mi_X9_readsNumber_L66 (F : Nat) : Nat → (Nat → Nat → Int32) → Int32 → Int32 → Int32 → (Option ((Nat → Nat → Int32) × Int32))
  | 0, _, _, _, _ => none
  | n + 1, I, v2, v3, v4 => mi_X9_readsNumber_B66  (mi_X9_readsNumber_L66 F n) F I v2 v3 v4
def mi_X9_readsNumber_J35 (F : Nat) (I : Nat → Nat → Int32) (v2 : Int32) (v3 : Int32) (s0 : Int32) (s1 : Int32) : Option ((Nat → Nat → Int32) × Int32) :=
  if (mi_X9_in s1 s0 57) = 0 then
    mi_X9_readsNumber_L66 F F I v2 v3 0
  else
    if ((I 0 7) < 0 ∨ 60 ≤ (I 0 7).toNatClampNeg) then none else
    if v2 < ((I 2 (I 0 7).toNatClampNeg) - 48) then
      mi_X9_readsNumber_L66 F F I v2 v3 0
    else
      mi_X9_readsNumber_L66 F F I v2 v3 1
def mi_X9_readsNumber (F : Nat) (I : Nat → Nat → Int32) (v1 : Int32) (v2 : Int32) : Option ((Nat → Nat → Int32) × Int32) :=
  if (I 0 4) ≤ (I 0 7) then
    mi_X9_readsNumber_L66 F F I v2 (-1005) 0
  else
    if ((I 0 7) < 0 ∨ 60 ≤ (I 0 7).toNatClampNeg) then none else
    if v1 = 0 then
      mi_X9_readsNumber_J35 F I v2 (-1005) 48 (I 2 (I 0 7).toNatClampNeg)
    else
      mi_X9_readsNumber_J35 F I v2 (-1005) 49 (I 2 (I 0 7).toNatClampNeg)
def mi_X9_part_J160 (F : Nat) (I : Nat → Nat → Int32) (v1 : Int32) : Option ((Nat → Nat → Int32) × Int32) :=
  if (I 0 8) = (-1005) then
    some (I, 0)
  else
    some (I, v1)
def mi_X9_part_J24 (F : Nat) (I : Nat → Nat → Int32) (s0 : Int32) : Option ((Nat → Nat → Int32) × Int32) :=
  mc_bn (mc_u I 0 8 0) fun I2 =>
  if s0 = 33 then
    mc_bn (mc_u I2 0 7 ((I2 0 7) + 1)) fun I4 =>
    mi_X9_part_J160 F I4 s0
  else
    if s0 = 43 then
      mc_bn (mc_u I2 0 7 ((I2 0 7) + 1)) fun I7 =>
      mc_ob2 (mi_X9_readsNumber F I7 1 999) fun I8 r9 =>
      mc_bn (mc_u I8 0 8 r9) fun I11 =>
      mi_X9_part_J160 F I11 s0
    else
      if s0 = 45 then
        mc_bn (mc_u I2 0 7 ((I2 0 7) + 1)) fun I13 =>
        mc_ob2 (mi_X9_readsNumber F I13 1 999) fun I14 r15 =>
        mc_bn (mc_u I14 0 8 r15) fun I17 =>
        mi_X9_part_J160 F I17 s0
      else
        if s0 = 46 then
          mc_bn (mc_u I2 0 7 ((I2 0 7) + 1)) fun I19 =>
          mc_ob2 (mi_X9_readsNumber F I19 1 999) fun I20 r21 =>
          mc_bn (mc_u I20 0 8 r21) fun I23 =>
          mi_X9_part_J160 F I23 s0
        else
          if s0 = 47 then
            mc_bn (mc_u I2 0 7 ((I2 0 7) + 1)) fun I25 =>
            mc_ob2 (mi_X9_readsNumber F I25 0 6) fun I26 r27 =>
            mc_bn (mc_u I26 0 8 r27) fun I29 =>
            mi_X9_part_J160 F I29 s0
          else
            if s0 = 98 then
              mc_bn (mc_u I2 0 7 ((I2 0 7) + 1)) fun I31 =>
              mi_X9_part_J160 F I31 s0
            else
              if s0 = 109 then
                mc_bn (mc_u I2 0 7 ((I2 0 7) + 1)) fun I33 =>
                mi_X9_part_J160 F I33 s0
              else
                some (I2, 0)
def mi_X9_part (F : Nat) (I : Nat → Nat → Int32) : Option ((Nat → Nat → Int32) × Int32) :=
  if (I 0 4) ≤ (I 0 7) then
    mi_X9_part_J24 F I 0
  else
    if ((I 0 7) < 0 ∨ 60 ≤ (I 0 7).toNatClampNeg) then none else
    mi_X9_part_J24 F I (I 2 (I 0 7).toNatClampNeg)
def mi_X9_fault_B5 (k5 : (Nat → Nat → Int32) → (Option ((Nat → Nat → Int32) × Int32))) (F : Nat) (I : Nat → Nat → Int32) : Option ((Nat → Nat → Int32) × Int32) :=
  mc_ob2 (mi_X9_part F I) fun I2 r3 =>
  if r3 = 0 then
    some (I2, (I2 0 7))
  else
    if (I2 0 7) = (I2 0 4) then
      some (I2, (-1005))
    else
      if ((I2 0 7) < 0 ∨ 60 ≤ (I2 0 7).toNatClampNeg) then none else
      if (I2 2 (I2 0 7).toNatClampNeg) = 59 then
        mc_bn (mc_u I2 0 7 ((I2 0 7) + 1)) fun I9 =>
        k5 I9
      else
        some (I2, (I2 0 7))
def mi_X9_fault_L5 (F : Nat) : Nat → (Nat → Nat → Int32) → (Option ((Nat → Nat → Int32) × Int32))
  | 0, _ => none
  | n + 1, I => mi_X9_fault_B5  (mi_X9_fault_L5 F n) F I
def mi_X9_fault (F : Nat) (I : Nat → Nat → Int32) : Option ((Nat → Nat → Int32) × Int32) :=
  mc_bn (mc_u I 0 7 0) fun I1 =>
  mi_X9_fault_L5 F F I1
def mi_X9_does (F : Nat) (I : Nat → Nat → Int32) (v1 : Int32) : Option ((Nat → Nat → Int32) × Int32) :=
  if v1 = 33 then
    mc_ob2 (mi_X9_sends F I) fun I2 r3 =>
    some (I2, r3)
  else
    if v1 = 43 then
      mc_ob2 (mi_X9_pays F I (I 0 8)) fun I6 r7 =>
      some (I6, r7)
    else
      if v1 = 45 then
        mc_ob2 (mi_X9_pays F I (-(I 0 8))) fun I10 r11 =>
        some (I10, r11)
      else
        if v1 = 47 then
          mc_ob2 (mi_X9_slopes I (I 0 8)) fun I14 r15 =>
          some (I14, r15)
        else
          if v1 = 98 then
            mc_ob2 (mi_X9_clamps F I 0) fun I18 r19 =>
            some (I18, r19)
          else
            if v1 = 109 then
              mc_ob2 (mi_X9_clamps F I 1) fun I22 r23 =>
              some (I22, r23)
            else
              mc_ob2 (mi_X9_passes F I (I 0 8)) fun I25 r26 =>
              some (I25, r26)
def mi_X9_perform_B32 (k32 : (Nat → Nat → Int32) → Int32 → (Option ((Nat → Nat → Int32) × Int32))) (F : Nat) (I : Nat → Nat → Int32) (v2 : Int32) : Option ((Nat → Nat → Int32) × Int32) :=
  if (I 0 4) ≤ (I 0 7) then
    mc_ob (mi_X9_records F I 6) fun I9 =>
    some (I9, v2)
  else
    mc_ob2 (mi_X9_part F I) fun I11 r12 =>
    mc_ob2 (mi_X9_does F I11 r12) fun I14 r15 =>
    if (mi_X9_isDone r15) = 0 then
      if r15 = (-1005) then
        mc_bn ((v2 + 1)) fun x23 =>
        mc_bn (mc_u I14 0 7 ((I14 0 7) + 1)) fun I24 =>
        k32 I24 x23
      else
        mc_ob (mi_X9_copies F I14 6 0) fun I25 =>
        mc_bn (mc_u I25 0 5 v2) fun I27 =>
        mc_bn (mc_u I27 0 6 r15) fun I28 =>
        some (I28, (-1004))
    else
      mc_bn ((v2 + 1)) fun x20 =>
      mc_bn (mc_u I14 0 7 ((I14 0 7) + 1)) fun I21 =>
      k32 I21 x20
def mi_X9_perform_L32 (F : Nat) : Nat → (Nat → Nat → Int32) → Int32 → (Option ((Nat → Nat → Int32) × Int32))
  | 0, _, _ => none
  | n + 1, I, v2 => mi_X9_perform_B32  (mi_X9_perform_L32 F n) F I v2
def mi_X9_perform (F : Nat) (I : Nat → Nat → Int32) : Option ((Nat → Nat → Int32) × Int32) :=
  mc_ob2 (mi_X9_fault F I) fun I1 r2 =>
  if r2 = (-1005) then
    mc_ob (mi_X9_copies F I1 0 6) fun I5 =>
    mc_bn (mc_u I5 0 7 0) fun I7 =>
    mi_X9_perform_L32 F F I7 0
  else
    some (I1, ((-1100) - r2))
def mi_X9_stopped (I : Nat → Nat → Int32) (v1 : Int32) : Int32 :=
  if (mi_X9_in v1 0 1) = 0 then
    (-1002)
  else
    if v1 = 0 then
      (I 0 5)
    else
      (I 0 6)
def mi_X9_undo (F : Nat) (I : Nat → Nat → Int32) : Option ((Nat → Nat → Int32) × Int32) :=
  if (I 0 1) = 0 then
    some (I, (-1005))
  else
    mc_ob (mi_X9_copies F I (I 0 1) 0) fun I2 =>
    mc_bn (mc_u I2 0 1 ((I2 0 1) - 1)) fun I4 =>
    some (I4, (I4 0 1))
def mi_X9_keep (F : Nat) (I : Nat → Nat → Int32) : Option ((Nat → Nat → Int32) × Int32) :=
  mc_ob (mi_X9_copies F I 0 5) fun I1 =>
  mc_bn (mc_u I1 0 2 1) fun I3 =>
  if ((4 : Int32) < 0 ∨ 1416 ≤ (4 : Int32).toNatClampNeg) then none else
  some (I3, (I3 1 (4 : Int32).toNatClampNeg))
def mi_X9_restore (F : Nat) (I : Nat → Nat → Int32) : Option ((Nat → Nat → Int32) × Int32) :=
  if (I 0 2) = 0 then
    some (I, (-1005))
  else
    mc_ob (mi_X9_records F I 0) fun I2 =>
    mc_ob (mi_X9_copies F I2 5 0) fun I4 =>
    if ((4 : Int32) < 0 ∨ 1416 ≤ (4 : Int32).toNatClampNeg) then none else
    some (I4, (I4 1 (4 : Int32).toNatClampNeg))
def mi_X9_pairDepth (I : Nat → Nat → Int32) (v1 : Int32) : Option (Int32) :=
  mc_bn ((mi_X9_bottleAt 0 v1)) fun x2 =>
  if ((x2 + 7) < 0 ∨ 1416 ≤ (x2 + 7).toNatClampNeg) then none else
  if ((x2 + 6) < 0 ∨ 1416 ≤ (x2 + 6).toNatClampNeg) then none else
  some (10 * ((I 1 (x2 + 7).toNatClampNeg) - (I 1 (x2 + 6).toNatClampNeg)))
def mi_X9_difference (I : Nat → Nat → Int32) (v1 : Int32) : Option (Int32) :=
  mc_ob (mi_X9_pairDepth I v1) fun r1 =>
  if (((mi_X9_bottleAt 0 v1) + 9) < 0 ∨ 1416 ≤ ((mi_X9_bottleAt 0 v1) + 9).toNatClampNeg) then none else
  some (mi_X9_size (r1 - (I 1 ((mi_X9_bottleAt 0 v1) + 9).toNatClampNeg)))
def mi_X9_isShut (I : Nat → Nat → Int32) (v1 : Int32) : Option (Int32) :=
  if (((mi_X9_bottleAt 0 v1) + 1) < 0 ∨ 1416 ≤ ((mi_X9_bottleAt 0 v1) + 1).toNatClampNeg) then none else
  if (I 1 ((mi_X9_bottleAt 0 v1) + 1).toNatClampNeg) = 1 then
    some 1
  else
    some 0
def mi_X9_asShut (I : Nat → Nat → Int32) (v1 : Int32) (v2 : Int32) : Option (Int32) :=
  mc_bn ((mi_X9_bottleAt 0 v1)) fun x2 =>
  if v2 = 6 then
    if ((x2 + 5) < 0 ∨ 1416 ≤ (x2 + 5).toNatClampNeg) then none else
    some (I 1 (x2 + 5).toNatClampNeg)
  else
    if v2 = 7 then
      if ((x2 + 6) < 0 ∨ 1416 ≤ (x2 + 6).toNatClampNeg) then none else
      some (I 1 (x2 + 6).toNatClampNeg)
    else
      if v2 = 8 then
        if ((x2 + 7) < 0 ∨ 1416 ≤ (x2 + 7).toNatClampNeg) then none else
        some (I 1 (x2 + 7).toNatClampNeg)
      else
        if v2 = 9 then
          if ((x2 + 8) < 0 ∨ 1416 ≤ (x2 + 8).toNatClampNeg) then none else
          some (I 1 (x2 + 8).toNatClampNeg)
        else
          if v2 = 10 then
            mc_ob (mi_X9_pairDepth I v1) fun r12 =>
            some r12
          else
            if v2 = 11 then
              if ((x2 + 9) < 0 ∨ 1416 ≤ (x2 + 9).toNatClampNeg) then none else
              some (I 1 (x2 + 9).toNatClampNeg)
            else
              mc_ob (mi_X9_difference I v1) fun r16 =>
              if ((11 : Int32) < 0 ∨ 1416 ≤ (11 : Int32).toNatClampNeg) then none else
              if r16 ≤ (I 1 (11 : Int32).toNatClampNeg) then
                some (mi_X9_flag 0)
              else
                some (mi_X9_flag 1)
def mi_X9_bottle (I : Nat → Nat → Int32) (v1 : Int32) (v2 : Int32) : Option (Int32) :=
  mc_ob (mi_X9_isBottle I v1) fun r1 =>
  if r1 = 0 then
    some (-1001)
  else
    mc_bn ((mi_X9_bottleAt 0 v1)) fun x6 =>
    if v2 = 0 then
      if (x6 < 0 ∨ 1416 ≤ x6.toNatClampNeg) then none else
      some (I 1 x6.toNatClampNeg)
    else
      if v2 = 1 then
        mc_ob (mi_X9_metre I 0 v1) fun r10 =>
        some r10
      else
        if v2 = 2 then
          mc_ob (mi_X9_metre I 0 v1) fun r13 =>
          mc_ob (mi_X9_counted I 0) fun r15 =>
          some (mi_X9_deep r13 r15)
        else
          if v2 = 3 then
            if ((x6 + 1) < 0 ∨ 1416 ≤ (x6 + 1).toNatClampNeg) then none else
            some (I 1 (x6 + 1).toNatClampNeg)
          else
            if v2 = 4 then
              if ((x6 + 2) < 0 ∨ 1416 ≤ (x6 + 2).toNatClampNeg) then none else
              some (I 1 (x6 + 2).toNatClampNeg)
            else
              if v2 = 5 then
                if ((x6 + 3) < 0 ∨ 1416 ≤ (x6 + 3).toNatClampNeg) then none else
                some (I 1 (x6 + 3).toNatClampNeg)
              else
                if v2 = 6 then
                  if (mi_X9_in v2 6 12) = 0 then
                    some (-1002)
                  else
                    mc_ob (mi_X9_isShut I v1) fun r28 =>
                    if r28 = 0 then
                      some (-1005)
                    else
                      mc_ob (mi_X9_asShut I v1 v2) fun r32 =>
                      some r32
                else
                  if v2 = 7 then
                    if (mi_X9_in v2 6 12) = 0 then
                      some (-1002)
                    else
                      mc_ob (mi_X9_isShut I v1) fun r38 =>
                      if r38 = 0 then
                        some (-1005)
                      else
                        mc_ob (mi_X9_asShut I v1 v2) fun r42 =>
                        some r42
                  else
                    if v2 = 8 then
                      if (mi_X9_in v2 6 12) = 0 then
                        some (-1002)
                      else
                        mc_ob (mi_X9_isShut I v1) fun r48 =>
                        if r48 = 0 then
                          some (-1005)
                        else
                          mc_ob (mi_X9_asShut I v1 v2) fun r52 =>
                          some r52
                    else
                      if v2 = 9 then
                        if (mi_X9_in v2 6 12) = 0 then
                          some (-1002)
                        else
                          mc_ob (mi_X9_isShut I v1) fun r58 =>
                          if r58 = 0 then
                            some (-1005)
                          else
                            mc_ob (mi_X9_asShut I v1 v2) fun r62 =>
                            some r62
                      else
                        if v2 = 10 then
                          if (mi_X9_in v2 6 12) = 0 then
                            some (-1002)
                          else
                            mc_ob (mi_X9_isShut I v1) fun r68 =>
                            if r68 = 0 then
                              some (-1005)
                            else
                              mc_ob (mi_X9_asShut I v1 v2) fun r72 =>
                              some r72
                        else
                          if v2 = 11 then
                            if (mi_X9_in v2 6 12) = 0 then
                              some (-1002)
                            else
                              mc_ob (mi_X9_isShut I v1) fun r78 =>
                              if r78 = 0 then
                                some (-1005)
                              else
                                mc_ob (mi_X9_asShut I v1 v2) fun r82 =>
                                some r82
                          else
                            if v2 = 12 then
                              if (mi_X9_in v2 6 12) = 0 then
                                some (-1002)
                              else
                                mc_ob (mi_X9_isShut I v1) fun r88 =>
                                if r88 = 0 then
                                  some (-1005)
                                else
                                  mc_ob (mi_X9_asShut I v1 v2) fun r92 =>
                                  some r92
                            else
                              if v2 = 13 then
                                if ((x6 + 4) < 0 ∨ 1416 ≤ (x6 + 4).toNatClampNeg) then none else
                                some (I 1 (x6 + 4).toNatClampNeg)
                              else
                                if (mi_X9_in v2 6 12) = 0 then
                                  some (-1002)
                                else
                                  mc_ob (mi_X9_isShut I v1) fun r99 =>
                                  if r99 = 0 then
                                    some (-1005)
                                  else
                                    mc_ob (mi_X9_asShut I v1 v2) fun r103 =>
                                    some r103
def mi_X9_messenger (I : Nat → Nat → Int32) (v1 : Int32) (v2 : Int32) : Option (Int32) :=
  if v1 < 0 then
    some (-1002)
  else
    if (mi_X9_in v2 0 1) = 0 then
      some (-1002)
    else
      if ((5 : Int32) < 0 ∨ 1416 ≤ (5 : Int32).toNatClampNeg) then none else
      if v1 < (I 1 (5 : Int32).toNatClampNeg) then
        if ((mi_X9_messengerAt 0 v1) < 0 ∨ 1416 ≤ (mi_X9_messengerAt 0 v1).toNatClampNeg) then none else
        mc_bn ((I 1 (mi_X9_messengerAt 0 v1).toNatClampNeg)) fun x9 =>
        if v2 = 0 then
          some x9
        else
          if ((1 : Int32) < 0 ∨ 1416 ≤ (1 : Int32).toNatClampNeg) then none else
          mc_ob (mi_X9_counted I 0) fun r12 =>
          some (mi_X9_deep ((I 1 (1 : Int32).toNatClampNeg) - x9) r12)
      else
        some (-1005)
def mi_X9_bottlesIn_J60 (k5 : (Nat → Nat → Int32) → Int32 → Int32 → Int32 → Int32 → Option (Int32)) (F : Nat) (I : Nat → Nat → Int32) (v1 : Int32) (v2 : Int32) (v3 : Int32) (v4 : Int32) (s0 : Int32) : Option (Int32) :=
  mc_ob (mi_X9_isShut I v4) fun r13 =>
  if r13 = v2 then
    if s0 = v1 then
      if v2 = 0 then
        mc_ob (mi_X9_isInWater I 0 v4) fun r28 =>
        if r28 = 0 then
          mc_bn ((v3 + (mi_X9_flag 0))) fun x33 =>
          mc_bn ((v4 + 1)) fun x34 =>
          k5 I v1 v2 x33 x34
        else
          mc_bn ((v3 + (mi_X9_flag 1))) fun x36 =>
          mc_bn ((v4 + 1)) fun x37 =>
          k5 I v1 v2 x36 x37
      else
        mc_bn ((v3 + (mi_X9_flag 1))) fun x26 =>
        mc_bn ((v4 + 1)) fun x27 =>
        k5 I v1 v2 x26 x27
    else
      mc_bn ((v3 + (mi_X9_flag 0))) fun x22 =>
      mc_bn ((v4 + 1)) fun x23 =>
      k5 I v1 v2 x22 x23
  else
    mc_bn ((v3 + (mi_X9_flag 0))) fun x18 =>
    mc_bn ((v4 + 1)) fun x19 =>
    k5 I v1 v2 x18 x19
def mi_X9_bottlesIn_B5 (k5 : (Nat → Nat → Int32) → Int32 → Int32 → Int32 → Int32 → Option (Int32)) (F : Nat) (I : Nat → Nat → Int32) (v1 : Int32) (v2 : Int32) (v3 : Int32) (v4 : Int32) : Option (Int32) :=
  if ((4 : Int32) < 0 ∨ 1416 ≤ (4 : Int32).toNatClampNeg) then none else
  if (I 1 (4 : Int32).toNatClampNeg) ≤ v4 then
    some v3
  else
    mc_ob (mi_X9_isShut I v4) fun r3 =>
    if r3 = 0 then
      mc_ob (mi_X9_metre I 0 v4) fun r7 =>
      mc_ob (mi_X9_counted I 0) fun r9 =>
      mi_X9_bottlesIn_J60 k5 F I v1 v2 v3 v4 (mi_X9_layerOf (mi_X9_deep r7 r9))
    else
      if (((mi_X9_bottleAt 0 v4) + 10) < 0 ∨ 1416 ≤ ((mi_X9_bottleAt 0 v4) + 10).toNatClampNeg) then none else
      mi_X9_bottlesIn_J60 k5 F I v1 v2 v3 v4 (I 1 ((mi_X9_bottleAt 0 v4) + 10).toNatClampNeg)
def mi_X9_bottlesIn_L5 (F : Nat) : Nat → (Nat → Nat → Int32) → Int32 → Int32 → Int32 → Int32 → Option (Int32)
  | 0, _, _, _, _, _ => none
  | n + 1, I, v1, v2, v3, v4 => mi_X9_bottlesIn_B5  (mi_X9_bottlesIn_L5 F n) F I v1 v2 v3 v4
def mi_X9_bottlesIn (F : Nat) (I : Nat → Nat → Int32) (v1 : Int32) (v2 : Int32) : Option (Int32) :=
  mi_X9_bottlesIn_L5 F F I v1 v2 0 0
def mi_X9_layer (F : Nat) (I : Nat → Nat → Int32) (v1 : Int32) (v2 : Int32) : Option (Int32) :=
  if (mi_X9_in v1 0 9) = 0 then
    some (-1001)
  else
    if (mi_X9_in v2 0 3) = 0 then
      some (-1002)
    else
      if 2 ≤ v2 then
        if v2 = 3 then
          mc_ob (mi_X9_bottlesIn F I v1 1) fun r11 =>
          some r11
        else
          mc_ob (mi_X9_bottlesIn F I v1 0) fun r9 =>
          some r9
      else
        if (((13 + (2 * v1)) + v2) < 0 ∨ 1416 ≤ ((13 + (2 * v1)) + v2).toNatClampNeg) then none else
        some (I 1 ((13 + (2 * v1)) + v2).toNatClampNeg)
def mi_X9_depth (v1 : Int32) (v2 : Int32) : Int32 :=
  if (mi_X9_in v1 0 999) = 0 then
    (-1002)
  else
    if (mi_X9_in v2 0 6) = 0 then
      (-1002)
    else
      (mi_X9_deep v1 v2)
def mi_X9_secondsTo_B13 (k13 : (Nat → Nat → Int32) → Int32 → Int32 → Int32 → (Option ((Nat → Nat → Int32) × Int32))) (F : Nat) (I : Nat → Nat → Int32) (v1 : Int32) (v2 : Int32) (v3 : Int32) : Option ((Nat → Nat → Int32) × Int32) :=
  if (((mi_X9_bottleAt v2 v1) + 1) < 0 ∨ 1416 ≤ ((mi_X9_bottleAt v2 v1) + 1).toNatClampNeg) then none else
  if (I 1 ((mi_X9_bottleAt v2 v1) + 1).toNatClampNeg) = 0 then
    if ((v2 + 5) < 0 ∨ 1416 ≤ (v2 + 5).toNatClampNeg) then none else
    if (I 1 (v2 + 5).toNatClampNeg) = 0 then
      some (I, (-1005))
    else
      mc_ob (mi_X9_counted I v2) fun r8 =>
      if r8 = 6 then
        some (I, (-1005))
      else
        mc_ob2 (mi_X9_second F I v2) fun I11 r12 =>
        mc_bn ((v3 + 1)) fun x14 =>
        k13 I11 v1 v2 x14
  else
    some (I, v3)
def mi_X9_secondsTo_L13 (F : Nat) : Nat → (Nat → Nat → Int32) → Int32 → Int32 → Int32 → (Option ((Nat → Nat → Int32) × Int32))
  | 0, _, _, _, _ => none
  | n + 1, I, v1, v2, v3 => mi_X9_secondsTo_B13  (mi_X9_secondsTo_L13 F n) F I v1 v2 v3
def mi_X9_secondsTo (F : Nat) (I : Nat → Nat → Int32) (v1 : Int32) : Option ((Nat → Nat → Int32) × Int32) :=
  mc_ob (mi_X9_copies F I 0 7) fun I1 =>
  mi_X9_secondsTo_L13 F F I1 v1 1239 0
def mi_X9_reason_J89 (F : Nat) (I : Nat → Nat → Int32) (v1 : Int32) (s0 : Int32) : Option ((Nat → Nat → Int32) × Int32) :=
  if s0 = 0 then
    some (I, 4)
  else
    mc_ob2 (mi_X9_secondsTo F I v1) fun I19 r20 =>
    if r20 = (-1005) then
      some (I19, 5)
    else
      some (I19, 0)
def mi_X9_reason (F : Nat) (I : Nat → Nat → Int32) (v1 : Int32) : Option ((Nat → Nat → Int32) × Int32) :=
  mc_ob (mi_X9_isBottle I v1) fun r1 =>
  if r1 = 0 then
    some (I, (-1001))
  else
    mc_ob (mi_X9_isShut I v1) fun r5 =>
    if r5 = 0 then
      mc_ob (mi_X9_isInWater I 0 v1) fun r9 =>
      if r9 = 0 then
        some (I, 2)
      else
        mc_ob (mi_X9_counted I 0) fun r13 =>
        if r13 = 6 then
          some (I, 3)
        else
          if ((5 : Int32) < 0 ∨ 1416 ≤ (5 : Int32).toNatClampNeg) then none else
          if (I 1 (5 : Int32).toNatClampNeg) ≤ 0 then
            mi_X9_reason_J89 F I v1 0
          else
            if ((5 : Int32) < 0 ∨ 1416 ≤ (5 : Int32).toNatClampNeg) then none else
            if ((mi_X9_messengerAt 0 ((I 1 (5 : Int32).toNatClampNeg) - 1)) < 0 ∨ 1416 ≤ (mi_X9_messengerAt 0 ((I 1 (5 : Int32).toNatClampNeg) - 1)).toNatClampNeg) then none else
            if ((mi_X9_bottleAt 0 v1) < 0 ∨ 1416 ≤ (mi_X9_bottleAt 0 v1).toNatClampNeg) then none else
            if (I 1 (mi_X9_messengerAt 0 ((I 1 (5 : Int32).toNatClampNeg) - 1)).toNatClampNeg) ≤ (I 1 (mi_X9_bottleAt 0 v1).toNatClampNeg) then
              mi_X9_reason_J89 F I v1 0
            else
              mi_X9_reason_J89 F I v1 1
    else
      some (I, 1)
def mi_X9_shutIn (F : Nat) (I : Nat → Nat → Int32) (v1 : Int32) : Option ((Nat → Nat → Int32) × Int32) :=
  mc_ob (mi_X9_isBottle I v1) fun r1 =>
  if r1 = 0 then
    some (I, (-1001))
  else
    mc_ob (mi_X9_isShut I v1) fun r5 =>
    if r5 = 0 then
      mc_ob2 (mi_X9_secondsTo F I v1) fun I9 r10 =>
      some (I9, r10)
    else
      some (I, (-1005))
def mi_X9_quietIn_B36 (k36 : (Nat → Nat → Int32) → Int32 → Int32 → (Option ((Nat → Nat → Int32) × Int32))) (F : Nat) (I : Nat → Nat → Int32) (v1 : Int32) (v2 : Int32) : Option ((Nat → Nat → Int32) × Int32) :=
  if ((v1 + 5) < 0 ∨ 1416 ≤ (v1 + 5).toNatClampNeg) then none else
  if (I 1 (v1 + 5).toNatClampNeg) ≤ 0 then
    some (I, v2)
  else
    mc_ob2 (mi_X9_second F I v1) fun I7 r8 =>
    mc_bn ((v2 + 1)) fun x10 =>
    k36 I7 v1 x10
def mi_X9_quietIn_L36 (F : Nat) : Nat → (Nat → Nat → Int32) → Int32 → Int32 → (Option ((Nat → Nat → Int32) × Int32))
  | 0, _, _, _ => none
  | n + 1, I, v1, v2 => mi_X9_quietIn_B36  (mi_X9_quietIn_L36 F n) F I v1 v2
def mi_X9_quietIn (F : Nat) (I : Nat → Nat → Int32) : Option ((Nat → Nat → Int32) × Int32) :=
  if ((5 : Int32) < 0 ∨ 1416 ≤ (5 : Int32).toNatClampNeg) then none else
  if (I 1 (5 : Int32).toNatClampNeg) ≤ 0 then
    mc_ob (mi_X9_copies F I 0 7) fun I3 =>
    mi_X9_quietIn_L36 F F I3 1239 0
  else
    mc_ob (mi_X9_counted I 0) fun r11 =>
    if r11 = 6 then
      some (I, (-1005))
    else
      mc_ob (mi_X9_copies F I 0 7) fun I14 =>
      mi_X9_quietIn_L36 F F I14 1239 0
def mi_X9_worst_J52 (k8 : (Nat → Nat → Int32) → Int32 → Int32 → Int32 → Option (Int32)) (F : Nat) (I : Nat → Nat → Int32) (v2 : Int32) (v3 : Int32) (v4 : Int32) (s0 : Int32) : Option (Int32) :=
  if v4 = 0 then
    mc_bn ((v3 + 1)) fun x9 =>
    k8 I s0 v2 x9
  else
    mc_ob (mi_X9_difference I v3) fun r10 =>
    mc_bn ((v3 + 1)) fun x12 =>
    k8 I s0 r10 x12
def mi_X9_worst_J40 (k8 : (Nat → Nat → Int32) → Int32 → Int32 → Int32 → Option (Int32)) (F : Nat) (I : Nat → Nat → Int32) (v1 : Int32) (v2 : Int32) (v3 : Int32) (s0 : Int32) : Option (Int32) :=
  if s0 = 0 then
    mi_X9_worst_J52 k8 F I v2 v3 s0 v1
  else
    mi_X9_worst_J52 k8 F I v2 v3 s0 v3
def mi_X9_worst_B8 (k8 : (Nat → Nat → Int32) → Int32 → Int32 → Int32 → Option (Int32)) (F : Nat) (I : Nat → Nat → Int32) (v1 : Int32) (v2 : Int32) (v3 : Int32) : Option (Int32) :=
  if ((4 : Int32) < 0 ∨ 1416 ≤ (4 : Int32).toNatClampNeg) then none else
  if (I 1 (4 : Int32).toNatClampNeg) ≤ v3 then
    some v1
  else
    mc_ob (mi_X9_isShut I v3) fun r3 =>
    if r3 = 0 then
      mi_X9_worst_J40 k8 F I v1 v2 v3 0
    else
      mc_ob (mi_X9_difference I v3) fun r13 =>
      if r13 ≤ v2 then
        mi_X9_worst_J40 k8 F I v1 v2 v3 0
      else
        mi_X9_worst_J40 k8 F I v1 v2 v3 1
def mi_X9_worst_L8 (F : Nat) : Nat → (Nat → Nat → Int32) → Int32 → Int32 → Int32 → Option (Int32)
  | 0, _, _, _, _ => none
  | n + 1, I, v1, v2, v3 => mi_X9_worst_B8  (mi_X9_worst_L8 F n) F I v1 v2 v3
def mi_X9_worst (F : Nat) (I : Nat → Nat → Int32) : Option (Int32) :=
  mi_X9_worst_L8 F F I (-1005) (-1) 0
def mi_X9_many_B4 (k4 : (Nat → Nat → Int32) → Int32 → Int32 → Int32 → Option (Int32)) (F : Nat) (I : Nat → Nat → Int32) (v1 : Int32) (v2 : Int32) (v3 : Int32) : Option (Int32) :=
  if ((4 : Int32) < 0 ∨ 1416 ≤ (4 : Int32).toNatClampNeg) then none else
  if (I 1 (4 : Int32).toNatClampNeg) ≤ v3 then
    some v2
  else
    if v1 = 0 then
      mc_ob (mi_X9_isInWater I 0 v3) fun r25 =>
      mc_bn ((v2 + (mi_X9_flag r25))) fun x29 =>
      mc_bn ((v3 + 1)) fun x30 =>
      k4 I v1 x29 x30
    else
      mc_ob (mi_X9_isShut I v3) fun r4 =>
      if r4 = 0 then
        mc_bn ((v2 + (mi_X9_flag 0))) fun x9 =>
        mc_bn ((v3 + 1)) fun x10 =>
        k4 I v1 x9 x10
      else
        if v1 = 1 then
          mc_bn ((v2 + (mi_X9_flag 1))) fun x13 =>
          mc_bn ((v3 + 1)) fun x14 =>
          k4 I v1 x13 x14
        else
          mc_ob (mi_X9_difference I v3) fun r15 =>
          if ((11 : Int32) < 0 ∨ 1416 ≤ (11 : Int32).toNatClampNeg) then none else
          if r15 ≤ (I 1 (11 : Int32).toNatClampNeg) then
            mc_bn ((v2 + (mi_X9_flag 0))) fun x20 =>
            mc_bn ((v3 + 1)) fun x21 =>
            k4 I v1 x20 x21
          else
            mc_bn ((v2 + (mi_X9_flag 1))) fun x23 =>
            mc_bn ((v3 + 1)) fun x24 =>
            k4 I v1 x23 x24
def mi_X9_many_L4 (F : Nat) : Nat → (Nat → Nat → Int32) → Int32 → Int32 → Int32 → Option (Int32)
  | 0, _, _, _, _ => none
  | n + 1, I, v1, v2, v3 => mi_X9_many_B4  (mi_X9_many_L4 F n) F I v1 v2 v3
def mi_X9_many (F : Nat) (I : Nat → Nat → Int32) (v1 : Int32) : Option (Int32) :=
  mi_X9_many_L4 F F I v1 0 0
def mi_X9_count (F : Nat) (I : Nat → Nat → Int32) (v1 : Int32) : Option (Int32) :=
  if v1 = 0 then
    if (v1 < 0 ∨ 1416 ≤ v1.toNatClampNeg) then none else
    some (I 1 v1.toNatClampNeg)
  else
    if v1 = 1 then
      if (v1 < 0 ∨ 1416 ≤ v1.toNatClampNeg) then none else
      some (I 1 v1.toNatClampNeg)
    else
      if v1 = 2 then
        if (v1 < 0 ∨ 1416 ≤ v1.toNatClampNeg) then none else
        some (I 1 v1.toNatClampNeg)
      else
        if v1 = 3 then
          mc_ob (mi_X9_counted I 0) fun r8 =>
          some r8
        else
          if v1 = 4 then
            if ((3 : Int32) < 0 ∨ 1416 ≤ (3 : Int32).toNatClampNeg) then none else
            some (I 1 (3 : Int32).toNatClampNeg)
          else
            if v1 = 5 then
              if ((4 : Int32) < 0 ∨ 1416 ≤ (4 : Int32).toNatClampNeg) then none else
              some (I 1 (4 : Int32).toNatClampNeg)
            else
              if v1 = 6 then
                mc_ob (mi_X9_many F I (v1 - 6)) fun r15 =>
                some r15
              else
                if v1 = 7 then
                  mc_ob (mi_X9_many F I (v1 - 6)) fun r18 =>
                  some r18
                else
                  if v1 = 8 then
                    mc_ob (mi_X9_many F I (v1 - 6)) fun r21 =>
                    some r21
                  else
                    if v1 = 9 then
                      if (mi_X9_in v1 9 16) = 0 then
                        some (-1002)
                      else
                        if (((5 + v1) - 9) < 0 ∨ 1416 ≤ ((5 + v1) - 9).toNatClampNeg) then none else
                        some (I 1 ((5 + v1) - 9).toNatClampNeg)
                    else
                      if v1 = 10 then
                        if (mi_X9_in v1 9 16) = 0 then
                          some (-1002)
                        else
                          if (((5 + v1) - 9) < 0 ∨ 1416 ≤ ((5 + v1) - 9).toNatClampNeg) then none else
                          some (I 1 ((5 + v1) - 9).toNatClampNeg)
                      else
                        if v1 = 11 then
                          if (mi_X9_in v1 9 16) = 0 then
                            some (-1002)
                          else
                            if (((5 + v1) - 9) < 0 ∨ 1416 ≤ ((5 + v1) - 9).toNatClampNeg) then none else
                            some (I 1 ((5 + v1) - 9).toNatClampNeg)
                        else
                          if v1 = 12 then
                            if (mi_X9_in v1 9 16) = 0 then
                              some (-1002)
                            else
                              if (((5 + v1) - 9) < 0 ∨ 1416 ≤ ((5 + v1) - 9).toNatClampNeg) then none else
                              some (I 1 ((5 + v1) - 9).toNatClampNeg)
                          else
                            if v1 = 13 then
                              if (mi_X9_in v1 9 16) = 0 then
                                some (-1002)
                              else
                                if (((5 + v1) - 9) < 0 ∨ 1416 ≤ ((5 + v1) - 9).toNatClampNeg) then none else
                                some (I 1 ((5 + v1) - 9).toNatClampNeg)
                            else
                              if v1 = 14 then
                                if (mi_X9_in v1 9 16) = 0 then
                                  some (-1002)
                                else
                                  if (((5 + v1) - 9) < 0 ∨ 1416 ≤ ((5 + v1) - 9).toNatClampNeg) then none else
                                  some (I 1 ((5 + v1) - 9).toNatClampNeg)
                              else
                                if v1 = 15 then
                                  if (mi_X9_in v1 9 16) = 0 then
                                    some (-1002)
                                  else
                                    if (((5 + v1) - 9) < 0 ∨ 1416 ≤ ((5 + v1) - 9).toNatClampNeg) then none else
                                    some (I 1 ((5 + v1) - 9).toNatClampNeg)
                                else
                                  if v1 = 16 then
                                    if (mi_X9_in v1 9 16) = 0 then
                                      some (-1002)
                                    else
                                      if (((5 + v1) - 9) < 0 ∨ 1416 ≤ ((5 + v1) - 9).toNatClampNeg) then none else
                                      some (I 1 ((5 + v1) - 9).toNatClampNeg)
                                  else
                                    if v1 = 17 then
                                      some (I 0 1)
                                    else
                                      if v1 = 18 then
                                        some (I 0 4)
                                      else
                                        if (mi_X9_in v1 9 16) = 0 then
                                          some (-1002)
                                        else
                                          if (((5 + v1) - 9) < 0 ∨ 1416 ≤ ((5 + v1) - 9).toNatClampNeg) then none else
                                          some (I 1 ((5 + v1) - 9).toNatClampNeg)

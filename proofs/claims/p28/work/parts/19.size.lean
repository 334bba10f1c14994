/-! PURE PART of p28: the size of a number (named as in whole's parts, which go on here) -/
def mi_X9_size (v0 : Int32) : Int32 :=
  if 0 ≤ v0 then
    v0
  else
    (-v0)

/-! What the methods do, as functions on Mem: printed by program from the bytecode. -/
def f_k_floorMod (x0 : Int32) (x1 : Int32) (M : Mem) : Option Int32 :=
  (if x1 = 0 then none else
    (if (0 : Int32) ≤ (x0 ^^^ x1) then
      some (x0 - x0 / x1 * x1)
    else
      (if (x0 - x0 / x1 * x1) = (0 : Int32) then
        some (x0 - x0 / x1 * x1)
      else
        some ((x0 - x0 / x1 * x1) + x1))))
def f_w_within (x0 : Int32) (x1 : Int32) (x2 : Int32) (M : Mem) : Int32 :=
  (if x0 < x1 then
    (0 : Int32)
  else
    (if x2 < x0 then
      (0 : Int32)
    else
      (1 : Int32)))
def f_k_max0 (x0 : Int32) (x1 : Int32) (M : Mem) : Int32 :=
  (if x0 < x1 then
    x1
  else
    x0)
def f_k_min0 (x0 : Int32) (x1 : Int32) (M : Mem) : Int32 :=
  (if x1 < x0 then
    x1
  else
    x0)
def f_k_min1 (x0 : Int64) (x2 : Int64) (M : Mem) : Int64 :=
  (if (0 : Int32) < (lg_cmp x0 x2) then
    x2
  else
    x0)
def f_k_max1 (x0 : Int64) (x2 : Int64) (M : Mem) : Int64 :=
  (if (lg_cmp x0 x2) < (0 : Int32) then
    x2
  else
    x0)

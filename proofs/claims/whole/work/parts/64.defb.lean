def w_scr (i : Int32) : Option Nat := if i = 0 then some 113 else if i = 1 then some 117 else if i = 2 then some 121 else if i = 3 then some 125 else none
def f_s_row (M : Mem) (k : Nat) : Mem := sr M (16 + k) (va_cpy (M.1 12) (M.1 (16 + k)) 0 0 66)
def f_s_keep (M : Mem) : Option Mem :=
  Option.bind (f_k_floorMod (gi M 14 1) (30 : Int32) M) fun q1 =>
  (if am_in q1 30 = true then
    Option.bind (f_k_floorMod (gi (f_s_row M q1.toNatClampNeg) 14 1 + (1 : Int32)) (30 : Int32) (f_s_row M q1.toNatClampNeg)) fun q2 =>
    some (si (si (f_s_row M q1.toNatClampNeg) 14 1 q2) 14 2 (f_k_min0 (gi (si (f_s_row M q1.toNatClampNeg) 14 1 q2) 14 2 + (1 : Int32)) (30 : Int32) (si (f_s_row M q1.toNatClampNeg) 14 1 q2)))
  else none)
def f_s_load (M : Mem) (k : Nat) : Mem := sr M 12 (va_cpy (M.1 (16 + k)) (M.1 12) 0 0 66)
def f_s_takeBack (M : Mem) : Option (Int32 × Mem) :=
  (if (0 : Int32) < gi M 14 2 then
    Option.bind (f_k_floorMod (gi M 14 1 - (1 : Int32)) (30 : Int32) M) fun q1 =>
    (if am_in (gi (si M 14 1 q1) 14 1) 30 = true then
      some ((1 : Int32), si (f_s_load (si M 14 1 q1) (gi (si M 14 1 q1) 14 1).toNatClampNeg) 14 2 (gi (f_s_load (si M 14 1 q1) (gi (si M 14 1 q1) 14 1).toNatClampNeg) 14 2 - (1 : Int32)))
    else none)
  else some ((0 : Int32), M))
def f_s_rows (M : Mem) (src dst : Nat) : Nat → Mem
  | 0 => M
  | n + 1 => sr (f_s_rows M src dst n) (dst + n) (va_cpy ((f_s_rows M src dst n).1 (src + n)) ((f_s_rows M src dst n).1 (dst + n)) 0 0 66)
def f_s_copyFrom_14_61 (N : Nat) (M : Mem) : Option Mem := some (si (si (f_s_rows M 63 16 30) 14 1 (gi (f_s_rows M 63 16 30) 61 1)) 14 2 (gi (si (f_s_rows M 63 16 30) 14 1 (gi (f_s_rows M 63 16 30) 61 1)) 61 2))
def f_s_copyFrom_61_14 (N : Nat) (M : Mem) : Option Mem := some (si (si (f_s_rows M 16 63 30) 61 1 (gi (f_s_rows M 16 63 30) 14 1)) 61 2 (gi (si (f_s_rows M 16 63 30) 61 1 (gi (f_s_rows M 16 63 30) 14 1)) 14 2))

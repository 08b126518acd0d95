/-! What the methods do, as functions on Mem: printed by program from the bytecode. -/
def f_g_add (x1 : Int32) (x2 : Int32) (x3 : Int32) (M : Mem) : Option (Int32 × Mem) :=
  (if (f_w_within (gi M 7 3) (0 : Int32) (7 : Int32) M) = (0 : Int32) then
    some ((-1 : Int32), M)
  else
    (if am_in (gi M 7 3) 8 = true then
      Option.bind (some (si M 8 ((gi M 7 3)).toNatClampNeg x1)) fun q1 =>
      (if am_in (gi q1 7 3) 8 = true then
        Option.bind (some (si q1 9 ((gi q1 7 3)).toNatClampNeg x2)) fun q2 =>
        (if am_in (gi q2 7 3) 8 = true then
          Option.bind (some (si q2 10 ((gi q2 7 3)).toNatClampNeg x3)) fun q3 =>
          Option.bind (some (si q3 7 3 ((gi q3 7 3) + (1 : Int32)))) fun q4 =>
          some (((gi q4 7 3) - (1 : Int32)), q4)
        else none)
      else none)
    else none))
def f_w_guest (x1 : Int32) (x2 : Int32) (x3 : Int32) (M : Mem) : Option (Int32 × Mem) :=
  (if (f_w_within x1 (0 : Int32) (9 : Int32) M) = (0 : Int32) then
    some ((-1 : Int32), M)
  else
    (if (f_w_within x2 (0 : Int32) (9 : Int32) M) = (0 : Int32) then
      some ((-1 : Int32), M)
    else
      (if (f_w_within x3 (-1 : Int32) (99 : Int32) M) = (0 : Int32) then
        some ((-1 : Int32), M)
      else
        Option.bind (f_g_add x1 x2 x3 M) fun q1 =>
        some (q1.1, q1.2))))
def f_m_isIn (x0 : Int32) (x1 : Int32) (x2 : Int32) (M : Mem) : Int32 :=
  (if x0 < x1 then
    (0 : Int32)
  else
    (if x2 < x0 then
      (0 : Int32)
    else
      (1 : Int32)))
def f_m_set (x1 : Int32) (x2 : Int32) (x3 : Int32) (M : Mem) : Option Mem :=
  (if am_in (((12 : Int32) + ((7 : Int32) * x1)) + x2) 3826 = true then
    Option.bind (some (si M 130 ((((12 : Int32) + ((7 : Int32) * x1)) + x2)).toNatClampNeg x3)) fun q1 =>
    some q1
  else none)
def f_m_sit (x1 : Int32) (M : Mem) : Option Mem :=
  Option.bind (f_m_set x1 (3 : Int32) (1 : Int32) M) fun q1 =>
  Option.bind (f_m_set x1 (4 : Int32) (0 : Int32) q1) fun q2 =>
  Option.bind (f_m_set x1 (5 : Int32) (0 : Int32) q2) fun q3 =>
  Option.bind (f_m_set x1 (6 : Int32) (-1 : Int32) q3) fun q4 =>
  some q4
def f_m_guest (x1 : Int32) (x2 : Int32) (x3 : Int32) (M : Mem) : Option (Int32 × Mem) :=
  (if (f_m_isIn x1 (0 : Int32) (9 : Int32) M) = (0 : Int32) then
    some ((-1 : Int32), M)
  else
    (if (f_m_isIn x2 (0 : Int32) (9 : Int32) M) = (0 : Int32) then
      some ((-1 : Int32), M)
    else
      (if (f_m_isIn x3 (-1 : Int32) (99 : Int32) M) = (0 : Int32) then
        some ((-1 : Int32), M)
      else
        (if (gi M 130 0) = (8 : Int32) then
          some ((-1 : Int32), M)
        else
          Option.bind (f_m_set (gi M 130 0) (0 : Int32) x1 M) fun q1 =>
          Option.bind (f_m_set (gi M 130 0) (1 : Int32) x2 q1) fun q2 =>
          Option.bind (f_m_set (gi M 130 0) (2 : Int32) x3 q2) fun q3 =>
          Option.bind (f_m_sit (gi M 130 0) q3) fun q4 =>
          Option.bind (some (si q4 130 0 ((gi q4 130 0) + (1 : Int32)))) fun q5 =>
          some ((gi M 130 0), q5)))))
def f_a_hasRoom (M : Mem) : Int32 :=
  (if (300 : Int32) < ((gi M 100 3) + (20 : Int32)) then
    (0 : Int32)
  else
    (1 : Int32))
def f_a_take_3 (N : Nat) : Nat → Int32 → Int32 → Mem → Option Mem
  | 0, _, _, _ => none
  | n + 1, x1, x2, M =>
    (if x2 < (0 : Int32) then
      some M
    else
      (if (f_w_within (gi M 100 3) (0 : Int32) (299 : Int32) M) = (0 : Int32) then
        f_a_take_3 N n x1 (x2 + (-8 : Int32)) M
      else
        (if am_in (gi M 100 3) 300 = true then
          Option.bind (some (si M 101 ((gi M 100 3)).toNatClampNeg ((x1 >>> (x2 &&& 31)) &&& (255 : Int32)))) fun q1 =>
          Option.bind (some (si q1 100 3 ((gi q1 100 3) + (1 : Int32)))) fun q2 =>
          f_a_take_3 N n x1 (x2 + (-8 : Int32)) q2
        else none)))
def f_a_take (N : Nat) (x1 : Int32) (M : Mem) : Option Mem :=
  f_a_take_3 N N x1 (24 : Int32) M
def f_w_feed (N : Nat) (x1 : Int32) (x2 : Int32) (x3 : Int32) (x4 : Int32) (x5 : Int32) (M : Mem) : Option (Int32 × Mem) :=
  (if (f_a_hasRoom M) = (0 : Int32) then
    some ((-1 : Int32), M)
  else
    Option.bind (f_a_take N x1 M) fun q1 =>
    Option.bind (f_a_take N x2 q1) fun q2 =>
    Option.bind (f_a_take N x3 q2) fun q3 =>
    Option.bind (f_a_take N x4 q3) fun q4 =>
    Option.bind (f_a_take N x5 q4) fun q5 =>
    some ((gi q5 100 3), q5))
def f_m_four_3 (N : Nat) : Nat → Int32 → Int32 → Mem → Option Mem
  | 0, _, _, _ => none
  | n + 1, x1, x2, M =>
    (if x2 < (0 : Int32) then
      some M
    else
      (if am_in (gi M 129 4) 300 = true then
        Option.bind (some (si M 133 ((gi M 129 4)).toNatClampNeg ((x1 >>> (x2 &&& 31)) &&& (255 : Int32)))) fun q1 =>
        Option.bind (some (si q1 129 4 ((gi q1 129 4) + (1 : Int32)))) fun q2 =>
        f_m_four_3 N n x1 (x2 + (-8 : Int32)) q2
      else none))
def f_m_four (N : Nat) (x1 : Int32) (M : Mem) : Option Mem :=
  f_m_four_3 N N x1 (24 : Int32) M
def f_m_feed (N : Nat) (x1 : Int32) (x2 : Int32) (x3 : Int32) (x4 : Int32) (x5 : Int32) (M : Mem) : Option (Int32 × Mem) :=
  (if ((gi M 129 4) + (20 : Int32)) ≤ (300 : Int32) then
    Option.bind (f_m_four N x1 M) fun q1 =>
    Option.bind (f_m_four N x2 q1) fun q2 =>
    Option.bind (f_m_four N x3 q2) fun q3 =>
    Option.bind (f_m_four N x4 q3) fun q4 =>
    Option.bind (f_m_four N x5 q4) fun q5 =>
    some ((gi q5 129 4), q5)
  else
    some ((-1 : Int32), M))
def f_w_end (x1 : Int32) (M : Mem) : Option (Int32 × Mem) :=
  (if (f_w_within x1 (0 : Int32) (gi M 100 3) M) = (0 : Int32) then
    some ((-1 : Int32), M)
  else
    Option.bind (some (si M 100 3 x1)) fun q1 =>
    some (x1, q1))
def f_m_end (x1 : Int32) (M : Mem) : Option (Int32 × Mem) :=
  (if (f_m_isIn x1 (0 : Int32) (gi M 129 4) M) = (0 : Int32) then
    some ((-1 : Int32), M)
  else
    Option.bind (some (si M 129 4 x1)) fun q1 =>
    some (x1, q1))
def f_k_fill0_107_5 (N : Nat) : Nat → Int32 → Int32 → Int32 → Mem → Option Mem
  | 0, _, _, _, _ => none
  | n + 1, x1, x2, x3, M =>
    (if x3 ≤ x2 then
      some M
    else
      (if am_in x2 3 = true then
        Option.bind (some (si M 107 (x2).toNatClampNeg x1)) fun q1 =>
        f_k_fill0_107_5 N n x1 (x2 + (1 : Int32)) x3 q1
      else none))
def f_k_fill0_107 (N : Nat) (x1 : Int32) (M : Mem) : Option Mem :=
  f_k_fill0_107_5 N N x1 (0 : Int32) (3 : Int32) M
def f_p_clear (N : Nat) (M : Mem) : Option Mem :=
  Option.bind (some (si M 104 3 (0 : Int32))) fun q1 =>
  Option.bind (some (si q1 104 4 (0 : Int32))) fun q2 =>
  Option.bind (f_k_fill0_107 N (-1 : Int32) q2) fun q3 =>
  some q3
def f_a_add (x1 : Int32) (x2 : Int32) (x3 : Int32) (M : Mem) : Option Mem :=
  (if (gi M 100 2) < (0 : Int32) then
    some M
  else
    (if (300 : Int32) < (gi M 100 2) then
      some M
    else
      (if am_in (gi M 100 2) 301 = true then
        Option.bind (some (si M 102 ((gi M 100 2)).toNatClampNeg ((x1 ||| (x2 <<< (6 : Int32))) ||| (x3 <<< (15 : Int32))))) fun q1 =>
        Option.bind (some (si q1 100 2 ((gi q1 100 2) + (1 : Int32)))) fun q2 =>
        some q2
      else none)))
def f_a_byteAt (x1 : Int32) (M : Mem) : Option Int32 :=
  (if x1 < (0 : Int32) then
    some (0 : Int32)
  else
    (if (gi M 100 3) ≤ x1 then
      some (0 : Int32)
    else
      (if (300 : Int32) ≤ x1 then
        some (0 : Int32)
      else
        (if am_in x1 300 = true then
          some (gi M 101 (x1).toNatClampNeg)
        else none))))
def f_a_isLetter (x0 : Int32) (M : Mem) : Int32 :=
  (if (f_w_within x0 (97 : Int32) (122 : Int32) M) = (0 : Int32) then
    (if (f_w_within x0 (65 : Int32) (90 : Int32) M) = (0 : Int32) then
      (0 : Int32)
    else
      (1 : Int32))
  else
    (1 : Int32))
def f_a_isDigit (x0 : Int32) (M : Mem) : Int32 :=
  (f_w_within x0 (48 : Int32) (57 : Int32) M)
def f_j_isLatin1_2 (M : Mem) : Int32 :=
  (1 : Int32)
def f_j_coder_2 (M : Mem) : Int32 :=
  (0 : Int32)
def f_j_length_2 (M : Mem) : Int32 :=
  ((12 : Int32) >>> (0 : Int32))
def f_j_canEncode (x0 : Int32) (M : Mem) : Int32 :=
  (if x0 < (0 : Int32) then
    (0 : Int32)
  else
    (if (255 : Int32) < x0 then
      (0 : Int32)
    else
      (1 : Int32)))
def f_j_indexOfChar_7 (N : Nat) : Nat → Int32 → Int32 → Int32 → Mem → Option Int32
  | 0, _, _, _, _ => none
  | n + 1, x3, x4, x5, M =>
    (if x3 ≤ x5 then
      some (-1 : Int32)
    else
      (if am_in x5 (am_byt 1).length = true then
        (if ((am_byt 1).getD (x5).toNatClampNeg 0) = x4 then
          some x5
        else
          f_j_indexOfChar_7 N n x3 x4 (x5 + (1 : Int32)) M)
      else none))
def f_j_indexOfChar (N : Nat) (x1 : Int32) (x2 : Int32) (x3 : Int32) (M : Mem) : Option Int32 :=
  f_j_indexOfChar_7 N N x3 (Int32.toInt8 x1).toInt32 x2 M
def f_j_indexOf2_4 (N : Nat) (x1 : Int32) (x2 : Int32) (x3 : Int32) (M : Mem) : Option Int32 :=
  (if (f_j_canEncode x1 M) = (0 : Int32) then
    some (-1 : Int32)
  else
    (if (f_k_max0 x2 (0 : Int32) M) < (f_k_min0 x3 (12 : Int32) M) then
      Option.bind (f_j_indexOfChar N x1 (f_k_max0 x2 (0 : Int32) M) (f_k_min0 x3 (12 : Int32) M) M) fun q1 =>
      some q1
    else
      some (-1 : Int32)))
def f_j_indexOf1_2 (N : Nat) (x1 : Int32) (x2 : Int32) (M : Mem) : Option Int32 :=
  Option.bind (f_j_indexOf2_4 N x1 x2 (f_j_length_2 M) M) fun q1 =>
  some q1
def f_j_indexOf0_2 (N : Nat) (x1 : Int32) (M : Mem) : Option Int32 :=
  Option.bind (f_j_indexOf1_2 N x1 (0 : Int32) M) fun q1 =>
  some q1
def f_a_cutSign_38 (N : Nat) (x1 : Int32) (x3 : Int32) (M : Mem) : Option (Int32 × Mem) :=
  Option.bind (f_a_byteAt (x1 + (1 : Int32)) M) fun q4 =>
  (if q4 = (61 : Int32) then
    (if x3 = (34 : Int32) then
      Option.bind (f_a_add (46 : Int32) x1 (0 : Int32) M) fun q5 =>
      some ((x1 + (2 : Int32)), q5)
    else
      Option.bind (f_a_add (47 : Int32) x1 (0 : Int32) M) fun q6 =>
      some ((x1 + (2 : Int32)), q6))
  else
    Option.bind (f_a_add x3 x1 (0 : Int32) M) fun q7 =>
    some ((x1 + (1 : Int32)), q7))
def f_a_cutSign_25 (N : Nat) (x1 : Int32) (s0 : Int32) (M : Mem) : Option (Int32 × Mem) :=
  (if s0 = (34 : Int32) then
    f_a_cutSign_38 N x1 s0 M
  else
    (if s0 = (35 : Int32) then
      f_a_cutSign_38 N x1 s0 M
    else
      Option.bind (f_a_add s0 x1 (0 : Int32) M) fun q3 =>
      some ((x1 + (1 : Int32)), q3)))
def f_a_cutSign (N : Nat) (x1 : Int32) (M : Mem) : Option (Int32 × Mem) :=
  Option.bind (f_a_byteAt x1 M) fun q1 =>
  Option.bind (f_j_indexOf0_2 N (Int32.toUInt32 q1 % 65536).toInt32 M) fun q2 =>
  (if (0 : Int32) ≤ q2 then
    f_a_cutSign_25 N x1 ((34 : Int32) + q2) M
  else
    f_a_cutSign_25 N x1 (32 : Int32) M)
def f_a_cutNumber_7 (N : Nat) : Nat → Int32 → Int32 → Int32 → Int32 → Mem → Option (Int32 × Mem)
  | 0, _, _, _, _, _ => none
  | n + 1, x1, x2, x3, x4, M =>
    (if (300 : Int32) ≤ x4 then
      Option.bind (f_a_add (33 : Int32) x1 x3 M) fun q1 =>
      some (x2, q1)
    else
      Option.bind (f_a_byteAt x2 M) fun q2 =>
      (if (f_a_isDigit q2 M) = (0 : Int32) then
        Option.bind (f_a_add (33 : Int32) x1 x3 M) fun q3 =>
        some (x2, q3)
      else
        Option.bind (f_a_byteAt x2 M) fun q4 =>
        f_a_cutNumber_7 N n x1 (x2 + (1 : Int32)) (f_k_min0 (((x3 * (10 : Int32)) + q4) - (48 : Int32)) (10000 : Int32) M) (x4 + (1 : Int32)) M))
def f_a_cutNumber (N : Nat) (x1 : Int32) (M : Mem) : Option (Int32 × Mem) :=
  f_a_cutNumber_7 N N x1 x1 (0 : Int32) (0 : Int32) M
def f_j_coder_1 (M : Mem) : Int32 :=
  (0 : Int32)
def f_j_length_1 (M : Mem) : Int32 :=
  ((163 : Int32) >>> (0 : Int32))
def f_j_isLatin1_1 (M : Mem) : Int32 :=
  (1 : Int32)
def f_j_checkIndex1 (x0 : Int32) (x1 : Int32) (M : Mem) : Option Int32 :=
  (if x0 < (0 : Int32) then
    none
  else
    (if x0 < x1 then
      some x0
    else
      none))
def f_j_checkIndex0 (x0 : Int32) (x1 : Int32) (M : Mem) : Option Mem :=
  Option.bind (f_j_checkIndex1 x0 x1 M) fun q1 =>
  some M
def f_j_charAt1_3 (x1 : Int32) (M : Mem) : Option (Int32 × Mem) :=
  Option.bind (f_j_checkIndex0 x1 (163 : Int32) M) fun q1 =>
  (if am_in x1 (am_byt 0).length = true then
    (if narrow .char (.int (Int32.toUInt32 (((am_byt 0).getD (x1).toNatClampNeg 0) &&& (255 : Int32)) % 65536).toInt32) = .int (Int32.toUInt32 (((am_byt 0).getD (x1).toNatClampNeg 0) &&& (255 : Int32)) % 65536).toInt32 then some ((Int32.toUInt32 (((am_byt 0).getD (x1).toNatClampNeg 0) &&& (255 : Int32)) % 65536).toInt32, q1) else none)
  else none)
def f_j_charAt0_1 (x1 : Int32) (M : Mem) : Option (Int32 × Mem) :=
  Option.bind (f_j_charAt1_3 x1 M) fun q1 =>
  (if narrow .char (.int q1.1) = .int q1.1 then some (q1.1, q1.2) else none)
def f_a_isWordAt_3 (N : Nat) : Nat → Int32 → Int32 → Int32 → Int32 → Mem → Option (Int32 × Mem)
  | 0, _, _, _, _, _ => none
  | n + 1, x1, x2, x3, x4, M =>
    (if x2 ≤ x4 then
      some ((1 : Int32), M)
    else
      (if (f_j_length_1 M) ≤ x4 then
        some ((1 : Int32), M)
      else
        Option.bind (f_j_charAt0_1 x4 M) fun q1 =>
        Option.bind (f_a_byteAt ((x3 + x4) - x1) q1.2) fun q2 =>
        (if q1.1 = q2 then
          f_a_isWordAt_3 N n x1 x2 x3 (x4 + (1 : Int32)) q1.2
        else
          some ((0 : Int32), q1.2))))
def f_a_isWordAt (N : Nat) (x1 : Int32) (x2 : Int32) (x3 : Int32) (M : Mem) : Option (Int32 × Mem) :=
  f_a_isWordAt_3 N N x1 x2 x3 x1 M
def f_a_wordOf_8 (N : Nat) : Nat → Int32 → Int32 → Int32 → Int32 → Int32 → Mem → Option (Int32 × Mem)
  | 0, _, _, _, _, _, _ => none
  | n + 1, x1, x2, x3, x4, x5, M =>
    (if (f_j_length_1 M) ≤ x5 then
      some ((32 : Int32), M)
    else
      Option.bind (f_j_charAt0_1 x5 M) fun q1 =>
      (if q1.1 = (32 : Int32) then
        (if (x5 - x4) = (x2 - x1) then
          Option.bind (f_a_isWordAt N x4 x5 x1 q1.2) fun q2 =>
          (if q2.1 = (0 : Int32) then
            f_a_wordOf_8 N n x1 x2 (x3 + (1 : Int32)) (x5 + (1 : Int32)) (x5 + (1 : Int32)) q2.2
          else
            some (x3, q2.2))
        else
          f_a_wordOf_8 N n x1 x2 (x3 + (1 : Int32)) (x5 + (1 : Int32)) (x5 + (1 : Int32)) q1.2)
      else
        f_a_wordOf_8 N n x1 x2 x3 x4 (x5 + (1 : Int32)) q1.2))
def f_a_wordOf (N : Nat) (x1 : Int32) (x2 : Int32) (M : Mem) : Option (Int32 × Mem) :=
  f_a_wordOf_8 N N x1 x2 (0 : Int32) (0 : Int32) (0 : Int32) M
def f_a_cutWord_4 (N : Nat) : Nat → Int32 → Int32 → Int32 → Mem → Option (Int32 × Mem)
  | 0, _, _, _, _ => none
  | n + 1, x1, x2, x3, M =>
    (if (300 : Int32) ≤ x3 then
      Option.bind (f_a_wordOf N x1 x2 M) fun q1 =>
      Option.bind (f_a_add q1.1 x1 (0 : Int32) q1.2) fun q2 =>
      some (x2, q2)
    else
      Option.bind (f_a_byteAt x2 M) fun q3 =>
      (if (f_a_isLetter q3 M) = (0 : Int32) then
        Option.bind (f_a_wordOf N x1 x2 M) fun q4 =>
        Option.bind (f_a_add q4.1 x1 (0 : Int32) q4.2) fun q5 =>
        some (x2, q5)
      else
        f_a_cutWord_4 N n x1 (x2 + (1 : Int32)) (x3 + (1 : Int32)) M))
def f_a_cutWord (N : Nat) (x1 : Int32) (M : Mem) : Option (Int32 × Mem) :=
  f_a_cutWord_4 N N x1 x1 (0 : Int32) M
def f_a_cut_9 (N : Nat) : Nat → Int32 → Int32 → Mem → Option Mem
  | 0, _, _, _ => none
  | n + 1, x1, x2, M =>
    (if (300 : Int32) ≤ x2 then
      Option.bind (f_a_add (48 : Int32) (gi M 100 3) (0 : Int32) M) fun q2 =>
      some q2
    else
      (if (gi M 100 3) ≤ x1 then
        Option.bind (f_a_add (48 : Int32) (gi M 100 3) (0 : Int32) M) fun q3 =>
        some q3
      else
        Option.bind (f_a_byteAt x1 M) fun q4 =>
        (if q4 = (32 : Int32) then
          f_a_cut_9 N n (x1 + (1 : Int32)) (x2 + (1 : Int32)) M
        else
          (if q4 = (10 : Int32) then
            f_a_cut_9 N n (x1 + (1 : Int32)) (x2 + (1 : Int32)) M
          else
            (if (f_a_isLetter q4 M) = (0 : Int32) then
              (if (f_a_isDigit q4 M) = (0 : Int32) then
                Option.bind (f_a_cutSign N x1 M) fun q5 =>
                f_a_cut_9 N n q5.1 (x2 + (1 : Int32)) q5.2
              else
                Option.bind (f_a_cutNumber N x1 M) fun q6 =>
                f_a_cut_9 N n q6.1 (x2 + (1 : Int32)) q6.2)
            else
              Option.bind (f_a_cutWord N x1 M) fun q7 =>
              f_a_cut_9 N n q7.1 (x2 + (1 : Int32)) q7.2)))))
def f_a_cut (N : Nat) (M : Mem) : Option Mem :=
  Option.bind (some (si M 100 2 (0 : Int32))) fun q1 =>
  f_a_cut_9 N N (0 : Int32) (0 : Int32) q1
def f_r_fail (x1 : Int32) (M : Mem) : Option Mem :=
  (if (gi M 103 1) = (0 : Int32) then
    Option.bind (some (si M 103 1 x1)) fun q1 =>
    (if am_in (gi q1 103 6) 301 = true then
      Option.bind (some (si q1 103 2 (((gi q1 102 ((gi q1 103 6)).toNatClampNeg) >>> (6 : Int32)) &&& (511 : Int32)))) fun q2 =>
      Option.bind (some (si q2 103 7 (49 : Int32))) fun q3 =>
      some q3
    else none)
  else
    Option.bind (some (si M 103 7 (49 : Int32))) fun q4 =>
    some q4)
def f_r_advance (M : Mem) : Option Mem :=
  (if (gi M 103 1) = (0 : Int32) then
    (if (300 : Int32) ≤ (gi M 103 6) then
      some M
    else
      Option.bind (some (si M 103 6 ((gi M 103 6) + (1 : Int32)))) fun q1 =>
      (if am_in (gi q1 103 6) 301 = true then
        Option.bind (some (si q1 103 7 ((gi q1 102 ((gi q1 103 6)).toNatClampNeg) &&& (63 : Int32)))) fun q2 =>
        some q2
      else none))
  else
    some M)
def f_r_expectNumber (x1 : Int32) (x2 : Int32) (M : Mem) : Option (Int32 × Mem) :=
  (if am_in (gi M 103 6) 301 = true then
    (if (gi M 103 7) = (33 : Int32) then
      (if ((gi M 102 ((gi M 103 6)).toNatClampNeg) >>> (15 : Int32)) < x1 then
        Option.bind (f_r_fail (2 : Int32) M) fun q1 =>
        some (x1, q1)
      else
        (if ((gi M 102 ((gi M 103 6)).toNatClampNeg) >>> (15 : Int32)) ≤ x2 then
          Option.bind (f_r_advance M) fun q2 =>
          some (((gi M 102 ((gi M 103 6)).toNatClampNeg) >>> (15 : Int32)), q2)
        else
          Option.bind (f_r_fail (2 : Int32) M) fun q3 =>
          some (x1, q3)))
    else
      Option.bind (f_r_fail (1 : Int32) M) fun q4 =>
      some (x1, q4))
  else none)
def f_p_put (x1 : Int32) (x2 : Int32) (M : Mem) : Option Mem :=
  (if (gi M 104 3) < (0 : Int32) then
    some M
  else
    (if (300 : Int32) ≤ (gi M 104 3) then
      some M
    else
      (if am_in (gi M 104 3) 300 = true then
        Option.bind (some (si M 105 ((gi M 104 3)).toNatClampNeg (x1 ||| (x2 <<< (6 : Int32))))) fun q1 =>
        Option.bind (some (si q1 104 3 ((gi q1 104 3) + (1 : Int32)))) fun q2 =>
        some q2
      else none)))
def f_r_readName (M : Mem) : Option Mem :=
  (if (gi M 103 5) = (14 : Int32) then
    (if (f_w_within (gi M 103 7) (3 : Int32) (9 : Int32) M) = (0 : Int32) then
      Option.bind (f_p_put (gi M 103 7) (0 : Int32) M) fun q1 =>
      Option.bind (f_r_advance q1) fun q2 =>
      some q2
    else
      Option.bind (f_r_fail (5 : Int32) M) fun q3 =>
      some q3)
  else
    (if (f_w_within (gi M 103 7) (10 : Int32) (11 : Int32) M) = (0 : Int32) then
      Option.bind (f_p_put (gi M 103 7) (0 : Int32) M) fun q4 =>
      Option.bind (f_r_advance q4) fun q5 =>
      some q5
    else
      Option.bind (f_r_fail (5 : Int32) M) fun q6 =>
      some q6))
def f_r_readProduct_32 (N : Nat) (RO : Int32 → Mem → Option Mem) (K7 : Int32 → Int32 → Mem → Option Mem) (x1 : Int32) (x2 : Int32) (M : Mem) : Option Mem :=
  Option.bind (f_r_advance M) fun q2 =>
  Option.bind (RO x1 q2) fun q3 =>
  Option.bind (f_p_put (gi M 103 7) (0 : Int32) q3) fun q4 =>
  K7 x1 (x2 + (1 : Int32)) q4
def f_r_readProduct_7 (N : Nat) (RO : Int32 → Mem → Option Mem) : Nat → Int32 → Int32 → Mem → Option Mem
  | 0, _, _, _ => none
  | n + 1, x1, x2, M =>
    (if (300 : Int32) ≤ x2 then
      some M
    else
      (if (gi M 103 7) = (40 : Int32) then
        f_r_readProduct_32 N RO (f_r_readProduct_7 N RO n) x1 x2 M
      else
        (if (gi M 103 7) = (41 : Int32) then
          f_r_readProduct_32 N RO (f_r_readProduct_7 N RO n) x1 x2 M
        else
          some M)))
def f_r_readProduct (N : Nat) (RO : Int32 → Mem → Option Mem) (x1 : Int32) (M : Mem) : Option Mem :=
  Option.bind (RO x1 M) fun q1 =>
  f_r_readProduct_7 N RO N x1 (0 : Int32) q1
def f_r_readSum_32 (N : Nat) (RO : Int32 → Mem → Option Mem) (K7 : Int32 → Int32 → Mem → Option Mem) (x1 : Int32) (x2 : Int32) (M : Mem) : Option Mem :=
  Option.bind (f_r_advance M) fun q2 =>
  Option.bind (f_r_readProduct N RO x1 q2) fun q3 =>
  Option.bind (f_p_put (gi M 103 7) (0 : Int32) q3) fun q4 =>
  K7 x1 (x2 + (1 : Int32)) q4
def f_r_readSum_7 (N : Nat) (RO : Int32 → Mem → Option Mem) : Nat → Int32 → Int32 → Mem → Option Mem
  | 0, _, _, _ => none
  | n + 1, x1, x2, M =>
    (if (300 : Int32) ≤ x2 then
      some M
    else
      (if (gi M 103 7) = (38 : Int32) then
        f_r_readSum_32 N RO (f_r_readSum_7 N RO n) x1 x2 M
      else
        (if (gi M 103 7) = (39 : Int32) then
          f_r_readSum_32 N RO (f_r_readSum_7 N RO n) x1 x2 M
        else
          some M)))
def f_r_readSum (N : Nat) (RO : Int32 → Mem → Option Mem) (x1 : Int32) (M : Mem) : Option Mem :=
  Option.bind (f_r_readProduct N RO x1 M) fun q1 =>
  f_r_readSum_7 N RO N x1 (0 : Int32) q1
def f_r_expect (x1 : Int32) (M : Mem) : Option Mem :=
  (if (gi M 103 7) = x1 then
    Option.bind (f_r_advance M) fun q1 =>
    some q1
  else
    Option.bind (f_r_fail (1 : Int32) M) fun q2 =>
    some q2)
def f_p_aim (x1 : Int32) (x2 : Int32) (M : Mem) : Option Mem :=
  (if x1 < (0 : Int32) then
    some M
  else
    (if (gi M 104 3) ≤ x1 then
      some M
    else
      (if (300 : Int32) ≤ x1 then
        some M
      else
        (if am_in x1 300 = true then
          (if am_in x1 300 = true then
            Option.bind (some (si M 105 (x1).toNatClampNeg (((gi M 105 (x1).toNatClampNeg) &&& (63 : Int32)) ||| (x2 <<< (6 : Int32))))) fun q1 =>
            some q1
          else none)
        else none))))
def f_r_readCase_73 (N : Nat) (RO : Int32 → Mem → Option Mem) (x1 : Int32) (x2 : Int32) (x3 : Int32) (x4 : Int32) (M : Mem) : Option (Int32 × Mem) :=
  Option.bind (f_r_expect (44 : Int32) M) fun q8 =>
  Option.bind (f_p_put (28 : Int32) x3 q8) fun q9 =>
  Option.bind (f_p_put (54 : Int32) x4 q9) fun q10 =>
  Option.bind (f_p_put (55 : Int32) (0 : Int32) q10) fun q11 =>
  Option.bind (f_r_readSum N RO x1 q11) fun q12 =>
  Option.bind (f_p_put (51 : Int32) (x2 + (1 : Int32)) q12) fun q13 =>
  Option.bind (f_p_aim (gi q10 104 3) (gi q13 104 3) q13) fun q14 =>
  some ((gi q12 104 3), q14)
def f_r_readCase (N : Nat) (RO : Int32 → Mem → Option Mem) (x1 : Int32) (x2 : Int32) (M : Mem) : Option (Int32 × Mem) :=
  Option.bind (f_r_advance M) fun q1 =>
  Option.bind (f_r_expectNumber (0 : Int32) (9999 : Int32) q1) fun q2 =>
  (if (gi q2.2 103 7) = (29 : Int32) then
    Option.bind (f_r_advance q2.2) fun q3 =>
    (if (gi q3 103 7) = (33 : Int32) then
      (if am_in (gi q3 103 6) 301 = true then
        (if q2.1 ≤ ((gi q3 102 ((gi q3 103 6)).toNatClampNeg) >>> (15 : Int32)) then
          Option.bind (f_r_expectNumber (0 : Int32) (9999 : Int32) q3) fun q4 =>
          f_r_readCase_73 N RO x1 x2 q2.1 q4.1 q4.2
        else
          Option.bind (f_r_fail (7 : Int32) q3) fun q5 =>
          Option.bind (f_r_expectNumber (0 : Int32) (9999 : Int32) q5) fun q6 =>
          f_r_readCase_73 N RO x1 x2 q2.1 q6.1 q6.2)
      else none)
    else
      Option.bind (f_r_expectNumber (0 : Int32) (9999 : Int32) q3) fun q7 =>
      f_r_readCase_73 N RO x1 x2 q2.1 q7.1 q7.2)
  else
    f_r_readCase_73 N RO x1 x2 q2.1 q2.1 q2.2)
def f_p_argumentAt_104 (x1 : Int32) (M : Mem) : Option Int32 :=
  (if x1 < (0 : Int32) then
    some (0 : Int32)
  else
    (if (gi M 104 3) ≤ x1 then
      some (0 : Int32)
    else
      (if (300 : Int32) ≤ x1 then
        some (0 : Int32)
      else
        (if am_in x1 300 = true then
          some ((gi M 105 (x1).toNatClampNeg) >>> (6 : Int32))
        else none))))
def f_r_readChoose_99 (N : Nat) (RO : Int32 → Mem → Option Mem) : Nat → Int32 → Int32 → Mem → Option Mem
  | 0, _, _, _ => none
  | n + 1, x2, x3, M =>
    (if (6 : Int32) ≤ x3 then
      some M
    else
      (if x2 = (-1 : Int32) then
        some M
      else
        Option.bind (f_p_argumentAt_104 x2 M) fun q10 =>
        Option.bind (f_p_aim x2 (gi M 104 3) M) fun q11 =>
        f_r_readChoose_99 N RO n (q10 - (1 : Int32)) (x3 + (1 : Int32)) q11))
def f_r_readChoose_70 (N : Nat) (RO : Int32 → Mem → Option Mem) (x1 : Int32) (x2 : Int32) (M : Mem) : Option Mem :=
  Option.bind (f_r_expect (30 : Int32) M) fun q6 =>
  Option.bind (f_p_put (52 : Int32) (0 : Int32) q6) fun q7 =>
  Option.bind (f_r_readSum N RO x1 q7) fun q8 =>
  Option.bind (f_r_expect (31 : Int32) q8) fun q9 =>
  f_r_readChoose_99 N RO N x2 (0 : Int32) q9
def f_r_readChoose_27 (N : Nat) (RO : Int32 → Mem → Option Mem) : Nat → Int32 → Int32 → Int32 → Mem → Option Mem
  | 0, _, _, _, _ => none
  | n + 1, x1, x2, x3, M =>
    (if (6 : Int32) < x3 then
      f_r_readChoose_70 N RO x1 x2 M
    else
      (if (gi M 103 7) = (28 : Int32) then
        (if x3 = (6 : Int32) then
          Option.bind (f_r_fail (7 : Int32) M) fun q4 =>
          f_r_readChoose_27 N RO n x1 x2 (x3 + (1 : Int32)) q4
        else
          Option.bind (f_r_readCase N RO x1 x2 M) fun q5 =>
          f_r_readChoose_27 N RO n x1 q5.1 (x3 + (1 : Int32)) q5.2)
      else
        f_r_readChoose_70 N RO x1 x2 M))
def f_r_readChoose (N : Nat) (RO : Int32 → Mem → Option Mem) (x1 : Int32) (M : Mem) : Option Mem :=
  Option.bind (f_r_advance M) fun q1 =>
  Option.bind (f_r_readSum N RO x1 q1) fun q2 =>
  (if (gi q2 103 7) = (28 : Int32) then
    f_r_readChoose_27 N RO N x1 (-1 : Int32) (0 : Int32) q2
  else
    Option.bind (f_r_fail (1 : Int32) q2) fun q3 =>
    f_r_readChoose_27 N RO N x1 (-1 : Int32) (0 : Int32) q3)
def f_r_readOne_84 (N : Nat) (RO : Int32 → Mem → Option Mem) (x1 : Int32) (M : Mem) : Option Mem :=
  (if x1 < (8 : Int32) then
    (if (gi M 103 7) = (27 : Int32) then
      Option.bind (f_r_readChoose N RO (x1 + (1 : Int32)) M) fun q5 =>
      some q5
    else
      (if (gi M 103 7) = (42 : Int32) then
        Option.bind (f_r_advance M) fun q6 =>
        Option.bind (f_r_readSum N RO (x1 + (1 : Int32)) q6) fun q7 =>
        Option.bind (f_r_expect (43 : Int32) q7) fun q8 =>
        some q8
      else
        Option.bind (f_r_advance M) fun q9 =>
        Option.bind (RO (x1 + (1 : Int32)) q9) fun q10 =>
        Option.bind (f_p_put (50 : Int32) (0 : Int32) q10) fun q11 =>
        some q11))
  else
    Option.bind (f_r_fail (3 : Int32) M) fun q12 =>
    some q12)
def f_r_readOneB (N : Nat) (RO : Int32 → Mem → Option Mem) (x1 : Int32) (M : Mem) : Option Mem :=
  (if (gi M 103 7) = (33 : Int32) then
    Option.bind (f_r_expectNumber (0 : Int32) (9999 : Int32) M) fun q1 =>
    Option.bind (f_p_put (33 : Int32) q1.1 q1.2) fun q2 =>
    some q2
  else
    (if (f_w_within (gi M 103 7) (0 : Int32) (11 : Int32) M) = (0 : Int32) then
      (if (gi M 103 7) = (42 : Int32) then
        f_r_readOne_84 N RO x1 M
      else
        (if (gi M 103 7) = (39 : Int32) then
          f_r_readOne_84 N RO x1 M
        else
          (if (gi M 103 7) = (27 : Int32) then
            f_r_readOne_84 N RO x1 M
          else
            Option.bind (f_r_fail (1 : Int32) M) fun q3 =>
            some q3)))
    else
      Option.bind (f_r_readName M) fun q4 =>
      some q4))
def f_r_readOne (N : Nat) : Nat → Int32 → Mem → Option Mem
  | 0, _, _ => none
  | k + 1, x1, M => f_r_readOneB N (f_r_readOne N k) x1 M
def f_p_startOf_104 (x1 : Int32) (M : Mem) : Option Int32 :=
  (if (f_w_within x1 (12 : Int32) (14 : Int32) M) = (0 : Int32) then
    some (-1 : Int32)
  else
    (if am_in (x1 - (12 : Int32)) 3 = true then
      some (gi M 107 ((x1 - (12 : Int32))).toNatClampNeg)
    else none))
def f_p_startHere (x1 : Int32) (M : Mem) : Option Mem :=
  (if (f_w_within x1 (12 : Int32) (14 : Int32) M) = (0 : Int32) then
    some M
  else
    (if am_in (x1 - (12 : Int32)) 3 = true then
      Option.bind (some (si M 107 ((x1 - (12 : Int32))).toNatClampNeg (gi M 104 3))) fun q1 =>
      some q1
    else none))
def f_r_readAsk_107 (N : Nat) (RO : Int32 → Mem → Option Mem) : Nat → Int32 → Int32 → Mem → Option Mem
  | 0, _, _, _ => none
  | n + 1, x1, x3, M =>
    (if x1 ≤ x3 then
      some M
    else
      Option.bind (f_p_put (26 : Int32) (0 : Int32) M) fun q14 =>
      f_r_readAsk_107 N RO n x1 (x3 + (1 : Int32)) q14)
def f_r_readAsk_46 (N : Nat) (RO : Int32 → Mem → Option Mem) (x1 : Int32) (M : Mem) : Option Mem :=
  Option.bind (f_r_readSum N RO x1 M) fun q3 =>
  (if (f_w_within (gi q3 103 7) (34 : Int32) (37 : Int32) q3) = (0 : Int32) then
    (if (gi q3 103 7) = (46 : Int32) then
      Option.bind (f_r_advance q3) fun q4 =>
      Option.bind (f_r_readSum N RO x1 q4) fun q5 =>
      Option.bind (f_p_put (gi q3 103 7) (0 : Int32) q5) fun q6 =>
      f_r_readAsk_107 N RO N x1 (0 : Int32) q6
    else
      (if (gi q3 103 7) = (47 : Int32) then
        Option.bind (f_r_advance q3) fun q7 =>
        Option.bind (f_r_readSum N RO x1 q7) fun q8 =>
        Option.bind (f_p_put (gi q3 103 7) (0 : Int32) q8) fun q9 =>
        f_r_readAsk_107 N RO N x1 (0 : Int32) q9
      else
        Option.bind (f_r_fail (1 : Int32) q3) fun q10 =>
        f_r_readAsk_107 N RO N x1 (0 : Int32) q10))
  else
    Option.bind (f_r_advance q3) fun q11 =>
    Option.bind (f_r_readSum N RO x1 q11) fun q12 =>
    Option.bind (f_p_put (gi q3 103 7) (0 : Int32) q12) fun q13 =>
    f_r_readAsk_107 N RO N x1 (0 : Int32) q13)
def f_r_readAsk_4 (N : Nat) (RO : Int32 → Mem → Option Mem) : Nat → Int32 → Int32 → Mem → Option Mem
  | 0, _, _, _ => none
  | n + 1, x1, x2, M =>
    (if (8 : Int32) < x2 then
      f_r_readAsk_46 N RO x1 M
    else
      (if (gi M 103 7) = (26 : Int32) then
        (if x1 < (8 : Int32) then
          Option.bind (f_r_advance M) fun q1 =>
          f_r_readAsk_4 N RO n (x1 + (1 : Int32)) (x2 + (1 : Int32)) q1
        else
          Option.bind (f_r_fail (3 : Int32) M) fun q2 =>
          f_r_readAsk_4 N RO n x1 (x2 + (1 : Int32)) q2)
      else
        f_r_readAsk_46 N RO x1 M))
def f_r_readAsk (N : Nat) (RO : Int32 → Mem → Option Mem) (M : Mem) : Option Mem :=
  f_r_readAsk_4 N RO N (0 : Int32) (0 : Int32) M
def f_r_readEither_36 (N : Nat) (RO : Int32 → Mem → Option Mem) (K2 : Int32 → Mem → Option Mem) : Nat → Int32 → Int32 → Mem → Option Mem
  | 0, _, _, _ => none
  | n + 1, x1, x2, M =>
    (if (300 : Int32) ≤ x2 then
      (if x1 ≤ (0 : Int32) then
        K2 (x1 + (1 : Int32)) M
      else
        Option.bind (f_p_put (24 : Int32) (0 : Int32) M) fun q7 =>
        K2 (x1 + (1 : Int32)) q7)
    else
      (if (gi M 103 7) = (25 : Int32) then
        Option.bind (f_r_advance M) fun q8 =>
        Option.bind (f_r_readAsk N RO q8) fun q9 =>
        Option.bind (f_p_put (25 : Int32) (0 : Int32) q9) fun q10 =>
        f_r_readEither_36 N RO K2 n x1 (x2 + (1 : Int32)) q10
      else
        (if x1 ≤ (0 : Int32) then
          K2 (x1 + (1 : Int32)) M
        else
          Option.bind (f_p_put (24 : Int32) (0 : Int32) M) fun q11 =>
          K2 (x1 + (1 : Int32)) q11)))
def f_r_readEither_2 (N : Nat) (RO : Int32 → Mem → Option Mem) : Nat → Int32 → Mem → Option Mem
  | 0, _, _ => none
  | n + 1, x1, M =>
    (if (300 : Int32) ≤ x1 then
      some M
    else
      (if x1 = (0 : Int32) then
        (if x1 ≤ (0 : Int32) then
          Option.bind (f_r_readAsk N RO M) fun q1 =>
          f_r_readEither_36 N RO (f_r_readEither_2 N RO n) N x1 (0 : Int32) q1
        else
          Option.bind (f_r_advance M) fun q2 =>
          Option.bind (f_r_readAsk N RO q2) fun q3 =>
          f_r_readEither_36 N RO (f_r_readEither_2 N RO n) N x1 (0 : Int32) q3)
      else
        (if (gi M 103 7) = (24 : Int32) then
          (if x1 ≤ (0 : Int32) then
            Option.bind (f_r_readAsk N RO M) fun q4 =>
            f_r_readEither_36 N RO (f_r_readEither_2 N RO n) N x1 (0 : Int32) q4
          else
            Option.bind (f_r_advance M) fun q5 =>
            Option.bind (f_r_readAsk N RO q5) fun q6 =>
            f_r_readEither_36 N RO (f_r_readEither_2 N RO n) N x1 (0 : Int32) q6)
        else
          some M)))
def f_r_readEither (N : Nat) (RO : Int32 → Mem → Option Mem) (M : Mem) : Option Mem :=
  f_r_readEither_2 N RO N (0 : Int32) M
def f_p_addClause (x1 : Int32) (x2 : Int32) (x3 : Int32) (M : Mem) : Option Mem :=
  (if (f_w_within (gi M 104 4) (0 : Int32) (23 : Int32) M) = (0 : Int32) then
    some M
  else
    (if am_in (gi M 104 4) 24 = true then
      Option.bind (some (si M 106 ((gi M 104 4)).toNatClampNeg ((x1 ||| (x2 <<< (5 : Int32))) ||| (x3 <<< (11 : Int32))))) fun q1 =>
      Option.bind (some (si q1 104 4 ((gi q1 104 4) + (1 : Int32)))) fun q2 =>
      some q2
    else none))
def f_r_readRest (x1 : Int32) (M : Mem) : Option Mem :=
  (if (14 : Int32) < x1 then
    (if x1 = (15 : Int32) then
      Option.bind (f_r_expectNumber (0 : Int32) (9 : Int32) M) fun q1 =>
      Option.bind (f_r_expect (4 : Int32) q1.2) fun q2 =>
      Option.bind (f_r_expectNumber (0 : Int32) (9 : Int32) q2) fun q3 =>
      Option.bind (f_p_addClause x1 q1.1 q3.1 q3.2) fun q4 =>
      some q4
    else
      (if x1 = (21 : Int32) then
        Option.bind (f_r_expectNumber (1 : Int32) (60 : Int32) M) fun q5 =>
        Option.bind (f_p_addClause x1 q5.1 (0 : Int32) q5.2) fun q6 =>
        some q6
      else
        (if x1 = (20 : Int32) then
          Option.bind (f_p_addClause x1 (0 : Int32) (0 : Int32) M) fun q7 =>
          some q7
        else
          (if x1 = (23 : Int32) then
            Option.bind (f_p_addClause x1 (0 : Int32) (0 : Int32) M) fun q8 =>
            some q8
          else
            Option.bind (f_r_expectNumber (0 : Int32) (7 : Int32) M) fun q9 =>
            Option.bind (f_p_addClause x1 q9.1 (0 : Int32) q9.2) fun q10 =>
            some q10))))
  else
    Option.bind (f_p_put (53 : Int32) (0 : Int32) M) fun q11 =>
    Option.bind (f_p_addClause x1 (0 : Int32) (0 : Int32) q11) fun q12 =>
    some q12)
def f_r_readClause (N : Nat) (M : Mem) : Option Mem :=
  (if (f_w_within (gi M 103 7) (12 : Int32) (23 : Int32) M) = (0 : Int32) then
    Option.bind (f_r_fail (1 : Int32) M) fun q1 =>
    some q1
  else
    Option.bind (f_p_startOf_104 (gi M 103 7) M) fun q2 =>
    (if q2 = (-1 : Int32) then
      (if (gi M 104 4) < (24 : Int32) then
        Option.bind (f_r_advance M) fun q3 =>
        Option.bind (some (si q3 103 5 (gi M 103 7))) fun q4 =>
        Option.bind (f_p_startHere (gi M 103 7) q4) fun q5 =>
        (if (gi M 103 7) = (12 : Int32) then
          Option.bind (f_r_readEither N (f_r_readOne N 12) q5) fun q6 =>
          Option.bind (f_r_readRest (gi M 103 7) q6) fun q7 =>
          Option.bind (f_r_expect (45 : Int32) q7) fun q8 =>
          some q8
        else
          (if (14 : Int32) < (gi M 103 7) then
            Option.bind (f_r_readRest (gi M 103 7) q5) fun q9 =>
            Option.bind (f_r_expect (45 : Int32) q9) fun q10 =>
            some q10
          else
            Option.bind (f_r_readSum N (f_r_readOne N 12) (0 : Int32) q5) fun q11 =>
            Option.bind (f_r_readRest (gi M 103 7) q11) fun q12 =>
            Option.bind (f_r_expect (45 : Int32) q12) fun q13 =>
            some q13))
      else
        Option.bind (f_r_fail (6 : Int32) M) fun q14 =>
        some q14)
    else
      Option.bind (f_r_fail (4 : Int32) M) fun q15 =>
      some q15))
def f_r_read_52 (N : Nat) : Nat → Int32 → Mem → Option Mem
  | 0, _, _ => none
  | n + 1, x1, M =>
    (if (24 : Int32) < x1 then
      some M
    else
      (if (gi M 103 7) = (48 : Int32) then
        some M
      else
        (if (gi M 103 7) = (49 : Int32) then
          some M
        else
          Option.bind (f_r_readClause N M) fun q8 =>
          f_r_read_52 N n (x1 + (1 : Int32)) q8)))
def f_r_read (N : Nat) (M : Mem) : Option Mem :=
  Option.bind (f_p_clear N M) fun q1 =>
  Option.bind (some (si q1 103 0 (1 : Int32))) fun q2 =>
  Option.bind (some (si q2 103 1 (0 : Int32))) fun q3 =>
  Option.bind (some (si q3 103 2 (-1 : Int32))) fun q4 =>
  Option.bind (f_a_cut N q4) fun q5 =>
  Option.bind (some (si q5 103 6 (0 : Int32))) fun q6 =>
  Option.bind (some (si q6 103 7 ((gi q6 102 0) &&& (63 : Int32)))) fun q7 =>
  f_r_read_52 N N (0 : Int32) q7
def f_p_copyFrom_a_104 (a : Nat) (M : Mem) : Option Mem :=
  Option.bind (some (sr M (a + 1) (va_cpy (M.1 105) (M.1 (a + 1)) 0 0 300))) fun q1 =>
  Option.bind (some (sr q1 (a + 2) (va_cpy (q1.1 106) (q1.1 (a + 2)) 0 0 24))) fun q2 =>
  Option.bind (some (sr q2 (a + 3) (va_cpy (q2.1 107) (q2.1 (a + 3)) 0 0 3))) fun q3 =>
  Option.bind (some (si q3 a 3 (gi q3 104 3))) fun q4 =>
  Option.bind (some (si q4 a 4 (gi q4 104 4))) fun q5 =>
  some q5
def f_w_text (N : Nat) (M : Mem) : Option (Int32 × Mem) :=
  (match w_scr (gi M 6 4) with
  | none =>
    some ((-1 : Int32), M)
  | some a =>
    Option.bind (f_r_read N M) fun q1 =>
    Option.bind (some (si q1 100 3 (0 : Int32))) fun q2 =>
    (if (gi q2 103 1) = (0 : Int32) then
      Option.bind (f_p_copyFrom_a_104 a q2) fun q3 =>
      Option.bind (some (si q3 6 4 ((gi q3 6 4) + (1 : Int32)))) fun q4 =>
      some (((gi q4 6 4) - (1 : Int32)), q4)
    else
      some ((-1 : Int32), q2)))
def f_m_byteAt (x1 : Int32) (M : Mem) : Option Int32 :=
  (if (gi M 129 4) ≤ x1 then
    some (-1 : Int32)
  else
    (if am_in x1 300 = true then
      some (gi M 133 (x1).toNatClampNeg)
    else none))
def f_m_isFigure (x0 : Int32) (M : Mem) : Int32 :=
  (if x0 < (48 : Int32) then
    (0 : Int32)
  else
    (if (57 : Int32) < x0 then
      (0 : Int32)
    else
      (1 : Int32)))
def f_m_isLetterByte (x0 : Int32) (M : Mem) : Int32 :=
  (if x0 < (97 : Int32) then
    (if x0 < (65 : Int32) then
      (0 : Int32)
    else
      (if (90 : Int32) < x0 then
        (0 : Int32)
      else
        (1 : Int32)))
  else
    (if x0 ≤ (122 : Int32) then
      (1 : Int32)
    else
      (if x0 < (65 : Int32) then
        (0 : Int32)
      else
        (if (90 : Int32) < x0 then
          (0 : Int32)
        else
          (1 : Int32)))))
def f_m_isSign (x0 : Int32) (M : Mem) : Int32 :=
  (if x0 = (35 : Int32) then
    (1 : Int32)
  else (if x0 = (40 : Int32) then
    (1 : Int32)
  else (if x0 = (41 : Int32) then
    (1 : Int32)
  else (if x0 = (42 : Int32) then
    (1 : Int32)
  else (if x0 = (43 : Int32) then
    (1 : Int32)
  else (if x0 = (45 : Int32) then
    (1 : Int32)
  else (if x0 = (47 : Int32) then
    (1 : Int32)
  else (if x0 = (58 : Int32) then
    (1 : Int32)
  else (if x0 = (59 : Int32) then
    (1 : Int32)
  else (if x0 = (60 : Int32) then
    (1 : Int32)
  else (if x0 = (61 : Int32) then
    (1 : Int32)
  else (if x0 = (62 : Int32) then
    (1 : Int32)
  else 
    (0 : Int32)))))))))))))
def f_m_nextToken_85 (N : Nat) : Nat → Mem → Option Mem
  | 0, _ => none
  | n + 1, M =>
    Option.bind (f_m_byteAt (gi M 129 7) M) fun q16 =>
    (if (f_m_isFigure q16 M) = (0 : Int32) then
      some M
    else
      (if (gi M 129 10) ≤ (99999 : Int32) then
        Option.bind (f_m_byteAt (gi M 129 7) M) fun q17 =>
        Option.bind (some (si M 129 10 ((((10 : Int32) * (gi M 129 10)) + q17) - (48 : Int32)))) fun q18 =>
        Option.bind (some (si q18 129 7 ((gi q18 129 7) + (1 : Int32)))) fun q19 =>
        f_m_nextToken_85 N n q19
      else
        Option.bind (some (si M 129 10 (gi M 129 10))) fun q20 =>
        Option.bind (some (si q20 129 7 ((gi q20 129 7) + (1 : Int32)))) fun q21 =>
        f_m_nextToken_85 N n q21))
def f_m_nextToken_168 (N : Nat) : Nat → Mem → Option Mem
  | 0, _ => none
  | n + 1, M =>
    Option.bind (f_m_byteAt (gi M 129 7) M) fun q22 =>
    (if (f_m_isLetterByte q22 M) = (0 : Int32) then
      some M
    else
      (if (lg_cmp ((gj M 129 11) >>> (Int32.toInt64 (48 : Int32) &&& 63)) (0 : Int64)) = (0 : Int32) then
        Option.bind (f_m_byteAt (gi M 129 7) M) fun q23 =>
        Option.bind (some (sj M 129 11 (((gj M 129 11) <<< (Int32.toInt64 (8 : Int32) &&& 63)) ||| (Int32.toInt64 q23)))) fun q24 =>
        Option.bind (some (si q24 129 7 ((gi q24 129 7) + (1 : Int32)))) fun q25 =>
        f_m_nextToken_168 N n q25
      else
        Option.bind (some (sj M 129 11 (1152921504606846976 : Int64))) fun q26 =>
        Option.bind (some (si q26 129 7 ((gi q26 129 7) + (1 : Int32)))) fun q27 =>
        f_m_nextToken_168 N n q27))
def f_m_nextToken_272 (N : Nat) (x1 : Int32) (M : Mem) : Option Mem :=
  Option.bind (f_m_byteAt (gi M 129 7) M) fun q28 =>
  (if q28 = (61 : Int32) then
    (if x1 = (60 : Int32) then
      Option.bind (some (si M 129 9 (4 : Int32))) fun q29 =>
      Option.bind (some (si q29 129 7 ((gi q29 129 7) + (1 : Int32)))) fun q30 =>
      some q30
    else
      Option.bind (some (si M 129 9 (5 : Int32))) fun q31 =>
      Option.bind (some (si q31 129 7 ((gi q31 129 7) + (1 : Int32)))) fun q32 =>
      some q32)
  else
    some M)
def f_m_nextToken_0 (N : Nat) : Nat → Mem → Option Mem
  | 0, _ => none
  | n + 1, M =>
    Option.bind (f_m_byteAt (gi M 129 7) M) fun q1 =>
    (if q1 = (32 : Int32) then
      Option.bind (some (si M 129 7 ((gi M 129 7) + (1 : Int32)))) fun q2 =>
      f_m_nextToken_0 N n q2
    else
      Option.bind (f_m_byteAt (gi M 129 7) M) fun q3 =>
      (if q3 = (10 : Int32) then
        Option.bind (some (si M 129 7 ((gi M 129 7) + (1 : Int32)))) fun q4 =>
        f_m_nextToken_0 N n q4
      else
        Option.bind (some (si M 129 8 (gi M 129 7))) fun q5 =>
        Option.bind (f_m_byteAt (gi q5 129 7) q5) fun q6 =>
        (if (0 : Int32) ≤ q6 then
          (if (f_m_isFigure q6 q5) = (0 : Int32) then
            (if (f_m_isLetterByte q6 q5) = (0 : Int32) then
              (if (f_m_isSign q6 q5) = (0 : Int32) then
                Option.bind (some (si q5 129 9 (3 : Int32))) fun q7 =>
                Option.bind (some (si q7 129 7 ((gi q7 129 7) + (1 : Int32)))) fun q8 =>
                (if q6 = (60 : Int32) then
                  f_m_nextToken_272 N q6 q8
                else
                  (if q6 = (62 : Int32) then
                    f_m_nextToken_272 N q6 q8
                  else
                    some q8))
              else
                Option.bind (some (si q5 129 9 q6)) fun q9 =>
                Option.bind (some (si q9 129 7 ((gi q9 129 7) + (1 : Int32)))) fun q10 =>
                (if q6 = (60 : Int32) then
                  f_m_nextToken_272 N q6 q10
                else
                  (if q6 = (62 : Int32) then
                    f_m_nextToken_272 N q6 q10
                  else
                    some q10)))
            else
              Option.bind (some (si q5 129 9 (2 : Int32))) fun q11 =>
              Option.bind (some (sj q11 129 11 (0 : Int64))) fun q12 =>
              f_m_nextToken_168 N N q12)
          else
            Option.bind (some (si q5 129 9 (1 : Int32))) fun q13 =>
            Option.bind (some (si q13 129 10 (0 : Int32))) fun q14 =>
            f_m_nextToken_85 N N q14)
        else
          Option.bind (some (si q5 129 9 (0 : Int32))) fun q15 =>
          some q15)))
def f_m_nextToken (N : Nat) (M : Mem) : Option Mem :=
  f_m_nextToken_0 N N M
def f_m_w2 (x0 : Int32) (x1 : Int32) (M : Mem) : Int64 :=
  (((Int32.toInt64 x0) <<< (Int32.toInt64 (8 : Int32) &&& 63)) ||| (Int32.toInt64 x1))
def f_m_w3 (x0 : Int32) (x1 : Int32) (x2 : Int32) (M : Mem) : Int64 :=
  (((f_m_w2 x0 x1 M) <<< (Int32.toInt64 (8 : Int32) &&& 63)) ||| (Int32.toInt64 x2))
def f_m_w4 (x0 : Int32) (x1 : Int32) (x2 : Int32) (x3 : Int32) (M : Mem) : Int64 :=
  (((f_m_w3 x0 x1 x2 M) <<< (Int32.toInt64 (8 : Int32) &&& 63)) ||| (Int32.toInt64 x3))
def f_m_w5 (x0 : Int32) (x1 : Int32) (x2 : Int32) (x3 : Int32) (x4 : Int32) (M : Mem) : Int64 :=
  (((f_m_w4 x0 x1 x2 x3 M) <<< (Int32.toInt64 (8 : Int32) &&& 63)) ||| (Int32.toInt64 x4))
def f_m_w6 (x0 : Int32) (x1 : Int32) (x2 : Int32) (x3 : Int32) (x4 : Int32) (x5 : Int32) (M : Mem) : Int64 :=
  (((f_m_w5 x0 x1 x2 x3 x4 M) <<< (Int32.toInt64 (8 : Int32) &&& 63)) ||| (Int32.toInt64 x5))
def f_m_isWord (x1 : Int64) (M : Mem) : Int32 :=
  (if (gi M 129 9) = (2 : Int32) then
    (if (lg_cmp (gj M 129 11) x1) = (0 : Int32) then
      (1 : Int32)
    else
      (0 : Int32))
  else
    (0 : Int32))
def f_m_sortOf (M : Mem) : Int32 :=
  (if (f_m_isWord (109330362692723 : Int64) M) = (0 : Int32) then
    (if (f_m_isWord (7102823 : Int64) M) = (0 : Int32) then
      (if (f_m_isWord (1684628851 : Int64) M) = (0 : Int32) then
        (if (f_m_isWord (444351214452 : Int64) M) = (0 : Int32) then
          (if (f_m_isWord (7561593 : Int64) M) = (0 : Int32) then
            (if (f_m_isWord (28520 : Int64) M) = (0 : Int32) then
              (if (f_m_isWord (500084863860 : Int64) M) = (0 : Int32) then
                (if (f_m_isWord (6453605 : Int64) M) = (0 : Int32) then
                  (if (f_m_isWord (6386539 : Int64) M) = (0 : Int32) then
                    (if (f_m_isWord (1885434739 : Int64) M) = (0 : Int32) then
                      (if (f_m_isWord (1936027236 : Int64) M) = (0 : Int32) then
                        (if (f_m_isWord (110403987072370 : Int64) M) = (0 : Int32) then
                          (-1 : Int32)
                        else
                          (11 : Int32))
                      else
                        (10 : Int32))
                    else
                      (9 : Int32))
                  else
                    (8 : Int32))
                else
                  (7 : Int32))
              else
                (6 : Int32))
            else
              (5 : Int32))
          else
            (4 : Int32))
        else
          (3 : Int32))
      else
        (2 : Int32))
    else
      (1 : Int32))
  else
    (0 : Int32))
def f_m_has (x0 : Int32) (x1 : Int32) (M : Mem) : Int32 :=
  (if ((x0 >>> (x1 &&& 31)) &&& (1 : Int32)) = (1 : Int32) then
    (1 : Int32)
  else
    (0 : Int32))
def f_m_nameOf (M : Mem) : Int32 :=
  (if (gi M 129 9) = (2 : Int32) then
    (if (lg_cmp (gj M 129 11) (474214787188 : Int64)) = (0 : Int32) then
      (0 : Int32)
    else
      (if (lg_cmp (gj M 129 11) (120325344161396 : Int64)) = (0 : Int32) then
        (1 : Int32)
      else
        (if (lg_cmp (gj M 129 11) (2003398245 : Int64)) = (0 : Int32) then
          (2 : Int32)
        else
          (if (lg_cmp (gj M 129 11) (1918987883 : Int64)) = (0 : Int32) then
            (3 : Int32)
          else
            (if (lg_cmp (gj M 129 11) (448377483891 : Int64)) = (0 : Int32) then
              (4 : Int32)
            else
              (if (lg_cmp (gj M 129 11) (1802071652 : Int64)) = (0 : Int32) then
                (5 : Int32)
              else
                (if (lg_cmp (gj M 129 11) (512970876019 : Int64)) = (0 : Int32) then
                  (6 : Int32)
                else
                  (if (lg_cmp (gj M 129 11) (495690081125 : Int64)) = (0 : Int32) then
                    (7 : Int32)
                  else
                    (if (lg_cmp (gj M 129 11) (113753910899827 : Int64)) = (0 : Int32) then
                      (8 : Int32)
                    else
                      (if (lg_cmp (gj M 129 11) (6840691 : Int64)) = (0 : Int32) then
                        (9 : Int32)
                      else
                        (if (lg_cmp (gj M 129 11) (1935763812 : Int64)) = (0 : Int32) then
                          (10 : Int32)
                        else
                          (if (lg_cmp (gj M 129 11) (448378008179 : Int64)) = (0 : Int32) then
                            (11 : Int32)
                          else
                            (-1 : Int32)))))))))))))
  else
    (-1 : Int32))
def f_m_isOf_16 (s0 : Int32) (M : Mem) : Int32 :=
  (if (gi M 129 14) = (2 : Int32) then
    (if s0 = (0 : Int32) then
      (1 : Int32)
    else
      (0 : Int32))
  else
    (if s0 = (1 : Int32) then
      (1 : Int32)
    else
      (0 : Int32)))
def f_m_isOf (x1 : Int32) (M : Mem) : Int32 :=
  (if x1 < (3 : Int32) then
    (1 : Int32)
  else
    (if (10 : Int32) ≤ x1 then
      f_m_isOf_16 (0 : Int32) M
    else
      f_m_isOf_16 (1 : Int32) M))
def f_m_opened (N : Nat) (x1 : Int32) (M : Mem) : Option (Int32 × Mem) :=
  (if (gi M 129 20) = (8 : Int32) then
    some ((3 : Int32), M)
  else
    Option.bind (some (si M 129 20 ((gi M 129 20) + (1 : Int32)))) fun q1 =>
    (if am_in (gi q1 129 19) 160 = true then
      Option.bind (some (si q1 134 ((gi q1 129 19)).toNatClampNeg x1)) fun q2 =>
      Option.bind (some (si q2 129 19 ((gi q2 129 19) + (1 : Int32)))) fun q3 =>
      (if x1 = (41 : Int32) then
        (if am_in (gi q3 129 21) 9 = true then
          Option.bind (some (si q3 135 ((gi q3 129 21)).toNatClampNeg (0 : Int32))) fun q4 =>
          Option.bind (some (si q4 129 21 ((gi q4 129 21) + (1 : Int32)))) fun q5 =>
          Option.bind (f_m_nextToken N q5) fun q6 =>
          some ((0 : Int32), q6)
        else none)
      else
        Option.bind (f_m_nextToken N q3) fun q7 =>
        some ((0 : Int32), q7))
    else none))
def f_m_openAt_7 (N : Nat) : Nat → Int32 → Mem → Option Int32
  | 0, _, _ => none
  | n + 1, x1, M =>
    (if x1 < (0 : Int32) then
      some x1
    else
      (if am_in x1 160 = true then
        (if (40 : Int32) ≤ (gi M 134 (x1).toNatClampNeg) then
          some x1
        else
          f_m_openAt_7 N n (x1 + (-1 : Int32)) M)
      else none))
def f_m_openAt (N : Nat) (M : Mem) : Option Int32 :=
  f_m_openAt_7 N N ((gi M 129 19) - (1 : Int32)) M
def f_m_openNow (N : Nat) (M : Mem) : Option Int32 :=
  Option.bind (f_m_openAt N M) fun q1 =>
  (if (0 : Int32) ≤ q1 then
    Option.bind (f_m_openAt N M) fun q2 =>
    (if am_in q2 160 = true then
      some (gi M 134 (q2).toNatClampNeg)
    else none)
  else
    some (-1 : Int32))
def f_m_isAskHere (N : Nat) (M : Mem) : Option Int32 :=
  (if (gi M 129 23) = (0 : Int32) then
    some (0 : Int32)
  else
    Option.bind (f_m_openNow N M) fun q1 =>
    (if q1 = (-1 : Int32) then
      some (1 : Int32)
    else
      some (0 : Int32)))
def f_m_rank (x0 : Int32) (M : Mem) : Int32 :=
  (if x0 < (40 : Int32) then
    (if x0 = (22 : Int32) then
      (1 : Int32)
    else
      (if x0 = (21 : Int32) then
        (2 : Int32)
      else
        (if x0 = (20 : Int32) then
          (3 : Int32)
        else
          (if x0 < (10 : Int32) then
            (if x0 = (3 : Int32) then
              (7 : Int32)
            else
              (if x0 < (6 : Int32) then
                (5 : Int32)
              else
                (6 : Int32)))
          else
            (4 : Int32)))))
  else
    (0 : Int32))
def f_m_isAskAhead (N : Nat) (M : Mem) : Option Int32 :=
  Option.bind (f_m_isAskHere N M) fun q1 =>
  (if q1 = (0 : Int32) then
    some (0 : Int32)
  else
    (if (gi M 129 19) = (0 : Int32) then
      some (1 : Int32)
    else
      (if am_in ((gi M 129 19) - (1 : Int32)) 160 = true then
        (if (f_m_isIn (f_m_rank (gi M 134 (((gi M 129 19) - (1 : Int32))).toNatClampNeg) M) (1 : Int32) (3 : Int32) M) = (0 : Int32) then
          some (0 : Int32)
        else
          some (1 : Int32))
      else none)))
def f_m_emit (x1 : Int32) (x2 : Int32) (M : Mem) : Option Mem :=
  (if am_in (((gi M 129 12) + (97 : Int32)) + ((2 : Int32) * (gi M 129 13))) 2820 = true then
    Option.bind (some (si M 132 ((((gi M 129 12) + (97 : Int32)) + ((2 : Int32) * (gi M 129 13)))).toNatClampNeg x1)) fun q1 =>
    (if am_in ((((gi q1 129 12) + (97 : Int32)) + ((2 : Int32) * (gi q1 129 13))) + (1 : Int32)) 2820 = true then
      Option.bind (some (si q1 132 (((((gi q1 129 12) + (97 : Int32)) + ((2 : Int32) * (gi q1 129 13))) + (1 : Int32))).toNatClampNeg x2)) fun q2 =>
      Option.bind (some (si q2 129 13 ((gi q2 129 13) + (1 : Int32)))) fun q3 =>
      some q3
    else none)
  else none)
def f_m_settle_0 (N : Nat) : Nat → Int32 → Mem → Option Mem
  | 0, _, _ => none
  | n + 1, x1, M =>
    (if (gi M 129 19) ≤ (0 : Int32) then
      some M
    else
      (if am_in ((gi M 129 19) - (1 : Int32)) 160 = true then
        (if (f_m_rank (gi M 134 (((gi M 129 19) - (1 : Int32))).toNatClampNeg) M) < x1 then
          some M
        else
          Option.bind (some (si M 129 19 ((gi M 129 19) - (1 : Int32)))) fun q1 =>
          (if am_in (gi q1 129 19) 160 = true then
            Option.bind (f_m_emit (gi q1 134 ((gi q1 129 19)).toNatClampNeg) (0 : Int32) q1) fun q2 =>
            (if am_in (gi q2 129 19) 160 = true then
              (if (gi q2 134 ((gi q2 129 19)).toNatClampNeg) = (3 : Int32) then
                Option.bind (some (si q2 129 20 ((gi q2 129 20) - (1 : Int32)))) fun q3 =>
                f_m_settle_0 N n x1 q3
              else
                (if am_in (gi q2 129 19) 160 = true then
                  (if (gi q2 134 ((gi q2 129 19)).toNatClampNeg) = (20 : Int32) then
                    Option.bind (some (si q2 129 20 ((gi q2 129 20) - (1 : Int32)))) fun q4 =>
                    f_m_settle_0 N n x1 q4
                  else
                    f_m_settle_0 N n x1 q2)
                else none))
            else none)
          else none))
      else none))
def f_m_settle (N : Nat) (x1 : Int32) (M : Mem) : Option Mem :=
  f_m_settle_0 N N x1 M
def f_m_beginOne_65 (N : Nat) (x1 : Int32) (s1 : Int32) (M : Mem) : Option (Int32 × Mem) :=
  (if (gi M 129 9) = (1 : Int32) then
    Option.bind (f_m_emit s1 (gi M 129 10) M) fun q6 =>
    Option.bind (f_m_nextToken N q6) fun q7 =>
    Option.bind (some (si q7 129 22 (1 : Int32))) fun q8 =>
    Option.bind (f_m_settle N (7 : Int32) q8) fun q9 =>
    some ((0 : Int32), q9)
  else
    Option.bind (f_m_emit s1 x1 M) fun q10 =>
    Option.bind (f_m_nextToken N q10) fun q11 =>
    Option.bind (some (si q11 129 22 (1 : Int32))) fun q12 =>
    Option.bind (f_m_settle N (7 : Int32) q12) fun q13 =>
    some ((0 : Int32), q13))
def f_m_beginOne_39 (N : Nat) (x1 : Int32) (M : Mem) : Option (Int32 × Mem) :=
  (if (gi M 129 9) = (1 : Int32) then
    (if (gi M 129 9) = (1 : Int32) then
      f_m_beginOne_65 N x1 (0 : Int32) M
    else
      f_m_beginOne_65 N x1 (1 : Int32) M)
  else
    (if x1 < (0 : Int32) then
      (if (gi M 129 9) = (40 : Int32) then
        Option.bind (f_m_opened N (40 : Int32) M) fun q1 =>
        some (q1.1, q1.2)
      else
        (if (gi M 129 9) = (45 : Int32) then
          Option.bind (f_m_opened N (3 : Int32) M) fun q2 =>
          some (q2.1, q2.2)
        else
          (if (f_m_isWord (109300197323621 : Int64) M) = (0 : Int32) then
            (if (f_m_isWord (7237492 : Int64) M) = (0 : Int32) then
              some ((1 : Int32), M)
            else
              Option.bind (f_m_isAskAhead N M) fun q3 =>
              (if q3 = (0 : Int32) then
                some ((1 : Int32), M)
              else
                Option.bind (f_m_opened N (20 : Int32) M) fun q4 =>
                some (q4.1, q4.2)))
          else
            Option.bind (f_m_opened N (41 : Int32) M) fun q5 =>
            some (q5.1, q5.2))))
    else
      (if (gi M 129 9) = (1 : Int32) then
        f_m_beginOne_65 N x1 (0 : Int32) M
      else
        f_m_beginOne_65 N x1 (1 : Int32) M)))
def f_m_beginOne (N : Nat) (M : Mem) : Option (Int32 × Mem) :=
  (if (gi M 129 9) = (1 : Int32) then
    (if (gi M 129 10) ≤ (9999 : Int32) then
      (if (f_m_nameOf M) < (0 : Int32) then
        f_m_beginOne_39 N (f_m_nameOf M) M
      else
        (if (f_m_isOf (f_m_nameOf M) M) = (0 : Int32) then
          some ((5 : Int32), M)
        else
          f_m_beginOne_39 N (f_m_nameOf M) M))
    else
      some ((2 : Int32), M))
  else
    (if (f_m_nameOf M) < (0 : Int32) then
      f_m_beginOne_39 N (f_m_nameOf M) M
    else
      (if (f_m_isOf (f_m_nameOf M) M) = (0 : Int32) then
        some ((5 : Int32), M)
      else
        f_m_beginOne_39 N (f_m_nameOf M) M)))
def f_m_isCompared_30 (N : Nat) (x1 : Int32) (M : Mem) : Option Int32 :=
  (if x1 < (0 : Int32) then
    some (0 : Int32)
  else
    (if am_in x1 160 = true then
      (if (f_m_rank (gi M 134 (x1).toNatClampNeg) M) = (4 : Int32) then
        some (1 : Int32)
      else
        some (0 : Int32))
    else none))
def f_m_isCompared_7 (N : Nat) : Nat → Int32 → Mem → Option Int32
  | 0, _, _ => none
  | n + 1, x1, M =>
    (if x1 < (0 : Int32) then
      f_m_isCompared_30 N x1 M
    else
      (if am_in x1 160 = true then
        (if (f_m_rank (gi M 134 (x1).toNatClampNeg) M) ≤ (4 : Int32) then
          f_m_isCompared_30 N x1 M
        else
          f_m_isCompared_7 N n (x1 + (-1 : Int32)) M)
      else none))
def f_m_isCompared (N : Nat) (M : Mem) : Option Int32 :=
  f_m_isCompared_7 N N ((gi M 129 19) - (1 : Int32)) M
def f_m_compareOf (M : Mem) : Int32 :=
  (if (gi M 129 9) = (60 : Int32) then
    (10 : Int32)
  else
    (if (gi M 129 9) = (4 : Int32) then
      (11 : Int32)
    else
      (if (gi M 129 9) = (62 : Int32) then
        (12 : Int32)
      else
        (if (gi M 129 9) = (5 : Int32) then
          (13 : Int32)
        else
          (if (gi M 129 9) = (61 : Int32) then
            (14 : Int32)
          else
            (if (gi M 129 9) = (35 : Int32) then
              (15 : Int32)
            else
              (-1 : Int32)))))))
def f_m_betweenOf (N : Nat) (M : Mem) : Option Int32 :=
  (if (gi M 129 9) = (43 : Int32) then
    some (4 : Int32)
  else
    (if (gi M 129 9) = (45 : Int32) then
      some (5 : Int32)
    else
      (if (gi M 129 9) = (42 : Int32) then
        some (6 : Int32)
      else
        (if (gi M 129 9) = (47 : Int32) then
          some (7 : Int32)
        else
          Option.bind (f_m_isAskHere N M) fun q1 =>
          (if q1 = (0 : Int32) then
            some (-1 : Int32)
          else
            Option.bind (f_m_isCompared N M) fun q2 =>
            (if q2 = (0 : Int32) then
              some (f_m_compareOf M)
            else
              (if (f_m_isWord (6385252 : Int64) M) = (0 : Int32) then
                (if (f_m_isWord (28530 : Int64) M) = (0 : Int32) then
                  some (-1 : Int32)
                else
                  some (22 : Int32))
              else
                some (21 : Int32))))))))
def f_m_shut_52 (N : Nat) : Nat → Int32 → Mem → Option Mem
  | 0, _, _ => none
  | n + 1, x2, M =>
    (if am_in (gi M 129 21) 9 = true then
      (if (gi M 135 ((gi M 129 21)).toNatClampNeg) ≤ x2 then
        Option.bind (f_m_nextToken N M) fun q7 =>
        Option.bind (f_m_settle N (7 : Int32) q7) fun q8 =>
        some q8
      else
        (if am_in (((6 : Int32) * (gi M 129 21)) + x2) 54 = true then
          (if am_in (((6 : Int32) * (gi M 129 21)) + x2) 54 = true then
            Option.bind (f_m_emit (gi M 136 ((((6 : Int32) * (gi M 129 21)) + x2)).toNatClampNeg) (gi M 137 ((((6 : Int32) * (gi M 129 21)) + x2)).toNatClampNeg) M) fun q9 =>
            f_m_shut_52 N n (x2 + (1 : Int32)) q9
          else none)
        else none))
    else none)
def f_m_shut (N : Nat) (x1 : Int32) (M : Mem) : Option Mem :=
  Option.bind (some (si M 129 19 ((gi M 129 19) - (1 : Int32)))) fun q1 =>
  Option.bind (some (si q1 129 20 ((gi q1 129 20) - (1 : Int32)))) fun q2 =>
  (if x1 = (43 : Int32) then
    Option.bind (some (si q2 129 21 ((gi q2 129 21) - (1 : Int32)))) fun q3 =>
    (if am_in (gi q3 129 21) 9 = true then
      Option.bind (f_m_emit (2 : Int32) (gi q3 135 ((gi q3 129 21)).toNatClampNeg) q3) fun q4 =>
      f_m_shut_52 N N (0 : Int32) q4
    else none)
  else
    Option.bind (f_m_nextToken N q2) fun q5 =>
    Option.bind (f_m_settle N (7 : Int32) q5) fun q6 =>
    some q6)
def f_m_anyNumber (M : Mem) : Int32 :=
  (if (gi M 129 9) = (1 : Int32) then
    (if (gi M 129 10) ≤ (9999 : Int32) then
      (0 : Int32)
    else
      (2 : Int32))
  else
    (1 : Int32))
def f_m_oneCase_131 (N : Nat) (x1 : Int32) (M : Mem) : Option (Int32 × Mem) :=
  (if (gi M 129 9) = (58 : Int32) then
    (if am_in x1 9 = true then
      (if am_in x1 9 = true then
        Option.bind (some (si M 135 (x1).toNatClampNeg ((gi M 135 (x1).toNatClampNeg) + (1 : Int32)))) fun q8 =>
        Option.bind (f_m_nextToken N q8) fun q9 =>
        some ((0 : Int32), q9)
      else none)
    else none)
  else
    some ((1 : Int32), M))
def f_m_oneCase (N : Nat) (M : Mem) : Option (Int32 × Mem) :=
  (if am_in ((gi M 129 21) - (1 : Int32)) 9 = true then
    (if (gi M 135 (((gi M 129 21) - (1 : Int32))).toNatClampNeg) = (6 : Int32) then
      some ((7 : Int32), M)
    else
      Option.bind (f_m_nextToken N M) fun q1 =>
      (if (f_m_anyNumber q1) = (0 : Int32) then
        (if am_in ((gi M 129 21) - (1 : Int32)) 9 = true then
          (if am_in (((6 : Int32) * ((gi M 129 21) - (1 : Int32))) + (gi q1 135 (((gi M 129 21) - (1 : Int32))).toNatClampNeg)) 54 = true then
            Option.bind (some (si q1 136 ((((6 : Int32) * ((gi M 129 21) - (1 : Int32))) + (gi q1 135 (((gi M 129 21) - (1 : Int32))).toNatClampNeg))).toNatClampNeg (gi q1 129 10))) fun q2 =>
            (if am_in (((6 : Int32) * ((gi M 129 21) - (1 : Int32))) + (gi q1 135 (((gi M 129 21) - (1 : Int32))).toNatClampNeg)) 54 = true then
              Option.bind (some (si q2 137 ((((6 : Int32) * ((gi M 129 21) - (1 : Int32))) + (gi q1 135 (((gi M 129 21) - (1 : Int32))).toNatClampNeg))).toNatClampNeg (gi q2 129 10))) fun q3 =>
              Option.bind (f_m_nextToken N q3) fun q4 =>
              (if (f_m_isWord (29807 : Int64) q4) = (0 : Int32) then
                f_m_oneCase_131 N ((gi M 129 21) - (1 : Int32)) q4
              else
                Option.bind (f_m_nextToken N q4) fun q5 =>
                (if (f_m_anyNumber q5) = (0 : Int32) then
                  (if am_in (((6 : Int32) * ((gi M 129 21) - (1 : Int32))) + (gi q1 135 (((gi M 129 21) - (1 : Int32))).toNatClampNeg)) 54 = true then
                    (if (gi q5 136 ((((6 : Int32) * ((gi M 129 21) - (1 : Int32))) + (gi q1 135 (((gi M 129 21) - (1 : Int32))).toNatClampNeg))).toNatClampNeg) ≤ (gi q5 129 10) then
                      (if am_in (((6 : Int32) * ((gi M 129 21) - (1 : Int32))) + (gi q1 135 (((gi M 129 21) - (1 : Int32))).toNatClampNeg)) 54 = true then
                        Option.bind (some (si q5 137 ((((6 : Int32) * ((gi M 129 21) - (1 : Int32))) + (gi q1 135 (((gi M 129 21) - (1 : Int32))).toNatClampNeg))).toNatClampNeg (gi q5 129 10))) fun q6 =>
                        Option.bind (f_m_nextToken N q6) fun q7 =>
                        f_m_oneCase_131 N ((gi M 129 21) - (1 : Int32)) q7
                      else none)
                    else
                      some ((7 : Int32), q5))
                  else none)
                else
                  some ((f_m_anyNumber q5), q5)))
            else none)
          else none)
        else none)
      else
        some ((f_m_anyNumber q1), q1)))
  else none)
def f_m_behindOne_168 (N : Nat) (x3 : Int32) (M : Mem) : Option (Int32 × Mem) :=
  Option.bind (f_m_settle N (1 : Int32) M) fun q12 =>
  (if x3 = (0 : Int32) then
    (if am_in ((gi q12 129 19) - (1 : Int32)) 160 = true then
      Option.bind (some (si q12 134 (((gi q12 129 19) - (1 : Int32))).toNatClampNeg (43 : Int32))) fun q13 =>
      Option.bind (some (si q13 129 22 (0 : Int32))) fun q14 =>
      (if x3 = (0 : Int32) then
        Option.bind (f_m_nextToken N q14) fun q15 =>
        some ((0 : Int32), q15)
      else
        Option.bind (f_m_oneCase N q14) fun q16 =>
        some (q16.1, q16.2))
    else none)
  else
    (if am_in ((gi q12 129 19) - (1 : Int32)) 160 = true then
      Option.bind (some (si q12 134 (((gi q12 129 19) - (1 : Int32))).toNatClampNeg (42 : Int32))) fun q17 =>
      Option.bind (some (si q17 129 22 (0 : Int32))) fun q18 =>
      (if x3 = (0 : Int32) then
        Option.bind (f_m_nextToken N q18) fun q19 =>
        some ((0 : Int32), q19)
      else
        Option.bind (f_m_oneCase N q18) fun q20 =>
        some (q20.1, q20.2))
    else none))
def f_m_behindOne_137 (N : Nat) (x2 : Int32) (s0 : Int32) (M : Mem) : Option (Int32 × Mem) :=
  (if s0 = (0 : Int32) then
    (if x2 = (42 : Int32) then
      (if (f_m_isWord (1701606245 : Int64) M) = (0 : Int32) then
        some ((-1 : Int32), M)
      else
        f_m_behindOne_168 N s0 M)
    else
      some ((-1 : Int32), M))
  else
    f_m_behindOne_168 N s0 M)
def f_m_behindOne_102 (N : Nat) (x2 : Int32) (M : Mem) : Option (Int32 × Mem) :=
  (if x2 = (41 : Int32) then
    (if (f_m_isWord (1667330917 : Int64) M) = (0 : Int32) then
      f_m_behindOne_137 N x2 (0 : Int32) M
    else
      f_m_behindOne_137 N x2 (1 : Int32) M)
  else
    (if x2 = (42 : Int32) then
      (if (f_m_isWord (1667330917 : Int64) M) = (0 : Int32) then
        f_m_behindOne_137 N x2 (0 : Int32) M
      else
        f_m_behindOne_137 N x2 (1 : Int32) M)
    else
      f_m_behindOne_137 N x2 (0 : Int32) M))
def f_m_behindOne_68 (N : Nat) (x2 : Int32) (M : Mem) : Option (Int32 × Mem) :=
  (if x2 = (43 : Int32) then
    (if (f_m_isWord (6647396 : Int64) M) = (0 : Int32) then
      f_m_behindOne_102 N x2 M
    else
      Option.bind (f_m_settle N (1 : Int32) M) fun q10 =>
      Option.bind (f_m_shut N x2 q10) fun q11 =>
      some ((0 : Int32), q11))
  else
    f_m_behindOne_102 N x2 M)
def f_m_behindOne (N : Nat) (M : Mem) : Option (Int32 × Mem) :=
  Option.bind (f_m_betweenOf N M) fun q1 =>
  (if q1 < (0 : Int32) then
    Option.bind (f_m_openNow N M) fun q2 =>
    (if q2 = (40 : Int32) then
      (if (gi M 129 9) = (41 : Int32) then
        Option.bind (f_m_settle N (1 : Int32) M) fun q3 =>
        Option.bind (f_m_shut N q2 q3) fun q4 =>
        some ((0 : Int32), q4)
      else
        f_m_behindOne_68 N q2 M)
    else
      f_m_behindOne_68 N q2 M)
  else
    Option.bind (f_m_settle N (f_m_rank q1 M) M) fun q5 =>
    (if am_in (gi q5 129 19) 160 = true then
      Option.bind (some (si q5 134 ((gi q5 129 19)).toNatClampNeg q1)) fun q6 =>
      Option.bind (some (si q6 129 19 ((gi q6 129 19) + (1 : Int32)))) fun q7 =>
      Option.bind (some (si q7 129 22 (0 : Int32))) fun q8 =>
      Option.bind (f_m_nextToken N q8) fun q9 =>
      some ((0 : Int32), q9)
    else none))
def f_m_parsed_43 (N : Nat) (K25 : Int32 → Mem → Option (Int32 × Mem)) (x1 : Int32) (s0 : Int32) (M : Mem) : Option (Int32 × Mem) :=
  (if s0 ≤ (0 : Int32) then
    (if s0 = (0 : Int32) then
      K25 x1 M
    else
      Option.bind (f_m_openNow N M) fun q8 =>
      (if (0 : Int32) ≤ q8 then
        some ((1 : Int32), M)
      else
        (if x1 = (0 : Int32) then
          Option.bind (f_m_settle N (1 : Int32) M) fun q9 =>
          some ((0 : Int32), q9)
        else
          Option.bind (f_m_isCompared N M) fun q10 =>
          (if q10 = (0 : Int32) then
            some ((1 : Int32), M)
          else
            Option.bind (f_m_settle N (1 : Int32) M) fun q11 =>
            some ((0 : Int32), q11)))))
  else
    some (s0, M))
def f_m_parsed_25 (N : Nat) : Nat → Int32 → Mem → Option (Int32 × Mem)
  | 0, _, _ => none
  | n + 1, x1, M =>
    (if (gi M 129 22) = (0 : Int32) then
      Option.bind (f_m_beginOne N M) fun q6 =>
      f_m_parsed_43 N (f_m_parsed_25 N n) x1 q6.1 q6.2
    else
      Option.bind (f_m_behindOne N M) fun q7 =>
      f_m_parsed_43 N (f_m_parsed_25 N n) x1 q7.1 q7.2)
def f_m_parsed (N : Nat) (x1 : Int32) (M : Mem) : Option (Int32 × Mem) :=
  Option.bind (some (si M 129 19 (0 : Int32))) fun q1 =>
  Option.bind (some (si q1 129 20 (0 : Int32))) fun q2 =>
  Option.bind (some (si q2 129 21 (0 : Int32))) fun q3 =>
  Option.bind (some (si q3 129 22 (0 : Int32))) fun q4 =>
  (if x1 = 0 ∨ x1 = 1 then
    Option.bind (some (si q4 129 23 x1)) fun q5 =>
    f_m_parsed_25 N N x1 q5
  else none)
def f_m_lawClause (N : Nat) (x1 : Int32) (x2 : Int32) (M : Mem) : Option (Int32 × Mem) :=
  (if am_in (x1 + (1 : Int32)) 2820 = true then
    Option.bind (some (si M 132 ((x1 + (1 : Int32))).toNatClampNeg (gi M 129 13))) fun q1 =>
    Option.bind (f_m_parsed N x2 q1) fun q2 =>
    (if am_in (x1 + (2 : Int32)) 2820 = true then
      Option.bind (some (si q2.2 132 ((x1 + (2 : Int32))).toNatClampNeg (gi q2.2 129 13))) fun q3 =>
      some (q2.1, q3)
    else none)
  else none)
def f_m_figure (N : Nat) (x1 : Int32) (x2 : Int32) (x3 : Int32) (M : Mem) : Option (Int32 × Mem) :=
  (if (gi M 129 9) = (1 : Int32) then
    (if (f_m_isIn (gi M 129 10) x2 x3 M) = (0 : Int32) then
      some ((2 : Int32), M)
    else
      (if am_in x1 2820 = true then
        Option.bind (some (si M 132 (x1).toNatClampNeg (gi M 129 10))) fun q1 =>
        Option.bind (f_m_nextToken N q1) fun q2 =>
        some ((0 : Int32), q2)
      else none))
  else
    some ((1 : Int32), M))
def f_m_guestClause (N : Nat) (x1 : Int32) (M : Mem) : Option (Int32 × Mem) :=
  Option.bind (f_m_figure N (x1 + (1 : Int32)) (0 : Int32) (9 : Int32) M) fun q1 =>
  (if q1.1 = (0 : Int32) then
    (if (f_m_isWord (448377483891 : Int64) q1.2) = (0 : Int32) then
      some ((1 : Int32), q1.2)
    else
      Option.bind (f_m_nextToken N q1.2) fun q2 =>
      Option.bind (f_m_figure N (x1 + (2 : Int32)) (0 : Int32) (9 : Int32) q2) fun q3 =>
      some (q3.1, q3.2))
  else
    some (q1.1, q1.2))
def f_m_body (N : Nat) (x1 : Int32) (x2 : Int32) (M : Mem) : Option (Int32 × Mem) :=
  (if x1 = (0 : Int32) then
    Option.bind (f_m_lawClause N x2 (1 : Int32) M) fun q1 =>
    some (q1.1, q1.2)
  else (if x1 = (1 : Int32) then
    Option.bind (f_m_lawClause N x2 (0 : Int32) M) fun q2 =>
    some (q2.1, q2.2)
  else (if x1 = (2 : Int32) then
    Option.bind (f_m_lawClause N x2 (0 : Int32) M) fun q3 =>
    some (q3.1, q3.2)
  else (if x1 = (3 : Int32) then
    Option.bind (f_m_guestClause N x2 M) fun q4 =>
    some (q4.1, q4.2)
  else (if x1 = (8 : Int32) then
    some ((0 : Int32), M)
  else (if x1 = (9 : Int32) then
    Option.bind (f_m_figure N (x2 + (1 : Int32)) (1 : Int32) (60 : Int32) M) fun q5 =>
    some (q5.1, q5.2)
  else (if x1 = (11 : Int32) then
    some ((0 : Int32), M)
  else 
    Option.bind (f_m_figure N (x2 + (1 : Int32)) (0 : Int32) (7 : Int32) M) fun q6 =>
    some (q6.1, q6.2))))))))
def f_m_clause_65 (N : Nat) (x1 : Int32) (x2 : Int32) (M : Mem) : Option (Int32 × Mem) :=
  Option.bind (some (si M 129 14 x1)) fun q2 =>
  Option.bind (f_m_nextToken N q2) fun q3 =>
  (if am_in (((gi q3 129 12) + (1 : Int32)) + ((4 : Int32) * x2)) 2820 = true then
    Option.bind (some (si q3 132 ((((gi q3 129 12) + (1 : Int32)) + ((4 : Int32) * x2))).toNatClampNeg x1)) fun q4 =>
    Option.bind (f_m_body N x1 (((gi q3 129 12) + (1 : Int32)) + ((4 : Int32) * x2)) q4) fun q5 =>
    (if q5.1 = (0 : Int32) then
      (if am_in (gi q5.2 129 12) 2820 = true then
        (if am_in (gi q5.2 129 12) 2820 = true then
          Option.bind (some (si q5.2 132 ((gi q5.2 129 12)).toNatClampNeg ((gi q5.2 132 ((gi q5.2 129 12)).toNatClampNeg) + (1 : Int32)))) fun q6 =>
          (if (gi q6 129 9) = (59 : Int32) then
            Option.bind (f_m_nextToken N q6) fun q7 =>
            some ((0 : Int32), q7)
          else
            some ((1 : Int32), q6))
        else none)
      else none)
    else
      some (q5.1, q5.2))
  else none)
def f_m_clause_29 (N : Nat) (x1 : Int32) (M : Mem) : Option (Int32 × Mem) :=
  (if am_in (gi M 129 12) 2820 = true then
    (if (gi M 132 ((gi M 129 12)).toNatClampNeg) = (24 : Int32) then
      some ((6 : Int32), M)
    else
      (if (2 : Int32) < x1 then
        f_m_clause_65 N x1 (gi M 132 ((gi M 129 12)).toNatClampNeg) M
      else
        Option.bind (some (si M 129 24 ((gi M 129 24) ||| ((1 : Int32) <<< (x1 &&& 31))))) fun q1 =>
        f_m_clause_65 N x1 (gi M 132 ((gi M 129 12)).toNatClampNeg) q1))
  else none)
def f_m_clause (N : Nat) (M : Mem) : Option (Int32 × Mem) :=
  (if (0 : Int32) ≤ (f_m_sortOf M) then
    (if (2 : Int32) < (f_m_sortOf M) then
      f_m_clause_29 N (f_m_sortOf M) M
    else
      (if (f_m_has (gi M 129 24) (f_m_sortOf M) M) = (0 : Int32) then
        f_m_clause_29 N (f_m_sortOf M) M
      else
        some ((4 : Int32), M)))
  else
    some ((1 : Int32), M))
def f_m_readText_43 (N : Nat) : Nat → Mem → Option (Int32 × Mem)
  | 0, _ => none
  | n + 1, M =>
    (if (gi M 129 9) = (0 : Int32) then
      some ((0 : Int32), M)
    else
      Option.bind (f_m_clause N M) fun q7 =>
      (if q7.1 = (0 : Int32) then
        f_m_readText_43 N n q7.2
      else
        some (q7.1, q7.2)))
def f_m_readText (N : Nat) (M : Mem) : Option (Int32 × Mem) :=
  Option.bind (some (si M 129 12 ((705 : Int32) * (gi M 130 5)))) fun q1 =>
  (if am_in (gi q1 129 12) 2820 = true then
    Option.bind (some (si q1 132 ((gi q1 129 12)).toNatClampNeg (0 : Int32))) fun q2 =>
    Option.bind (some (si q2 129 13 (0 : Int32))) fun q3 =>
    Option.bind (some (si q3 129 24 (0 : Int32))) fun q4 =>
    Option.bind (some (si q4 129 7 (0 : Int32))) fun q5 =>
    Option.bind (f_m_nextToken N q5) fun q6 =>
    f_m_readText_43 N N q6
  else none)
def f_m_text_36 (N : Nat) (s1 : Int32) (M : Mem) : Option (Int32 × Mem) :=
  Option.bind (some (si M 129 6 s1)) fun q3 =>
  Option.bind (some (si q3 129 4 (0 : Int32))) fun q4 =>
  (if (gi q4 129 5) = (0 : Int32) then
    Option.bind (some (si q4 130 5 ((gi q4 130 5) + (1 : Int32)))) fun q5 =>
    some (((gi q5 130 5) - (1 : Int32)), q5)
  else
    some ((-1 : Int32), q4))
def f_m_text (N : Nat) (M : Mem) : Option (Int32 × Mem) :=
  (if (gi M 130 5) = (4 : Int32) then
    some ((-1 : Int32), M)
  else
    Option.bind (f_m_readText N M) fun q1 =>
    Option.bind (some (si q1.2 129 5 q1.1)) fun q2 =>
    (if (gi q2 129 5) = (0 : Int32) then
      f_m_text_36 N (-1 : Int32) q2
    else
      f_m_text_36 N (gi q2 129 8) q2))
def f_w_fault (x1 : Int32) (M : Mem) : Int32 :=
  (if (gi M 103 0) = (0 : Int32) then
    (-1 : Int32)
  else
    (if (f_w_within x1 (0 : Int32) (1 : Int32) M) = (0 : Int32) then
      (-1 : Int32)
    else
      (if x1 = (0 : Int32) then
        (gi M 103 1)
      else
        (gi M 103 2))))
def f_m_fault (x1 : Int32) (M : Mem) : Int32 :=
  (if x1 = (0 : Int32) then
    (gi M 129 5)
  else
    (if x1 = (1 : Int32) then
      (gi M 129 6)
    else
      (-1 : Int32)))
def f_w_by (x1 : Int32) (M : Mem) : Option (Int32 × Mem) :=
  (if (f_w_within x1 (-1 : Int32) ((gi M 6 4) - (1 : Int32)) M) = (0 : Int32) then
    some ((0 : Int32), M)
  else
    Option.bind (some (si M 6 5 x1)) fun q1 =>
    some ((1 : Int32), q1))
def f_m_by (x1 : Int32) (M : Mem) : Option (Int32 × Mem) :=
  (if (f_m_isIn x1 (-1 : Int32) ((gi M 130 5) - (1 : Int32)) M) = (0 : Int32) then
    some ((0 : Int32), M)
  else
    Option.bind (some (si M 130 6 x1)) fun q1 =>
    some ((1 : Int32), q1))
def f_g_knows (x1 : Int32) (M : Mem) : Int32 :=
  (f_w_within x1 (0 : Int32) ((f_k_min0 (gi M 7 3) (8 : Int32) M) - (1 : Int32)) M)
def f_g_everybody (M : Mem) : Int32 :=
  (((1 : Int32) <<< ((gi M 7 3) &&& 31)) - (1 : Int32))
def f_e_gone (M : Mem) : Int32 :=
  (gi M 12 3)
def f_t_there (M : Mem) : Int32 :=
  ((f_g_everybody M) &&& ((f_e_gone M) ^^^ (-1 : Int32)))
def f_t_isThere (x1 : Int32) (M : Mem) : Int32 :=
  (if (f_g_knows x1 M) = (0 : Int32) then
    (0 : Int32)
  else
    (if (((f_t_there M) >>> (x1 &&& 31)) &&& (1 : Int32)) = (1 : Int32) then
      (1 : Int32)
    else
      (0 : Int32)))
def f_e_spoken (M : Mem) : Int32 :=
  (gi M 12 4)
def f_e_isFull (M : Mem) : Int32 :=
  (if (f_e_spoken M) < (40 : Int32) then
    (0 : Int32)
  else
    (1 : Int32))
def f_t_keepStep (M : Mem) : Option Mem :=
  Option.bind (f_s_keep M) fun q1 =>
  some q1
def f_e_moment (M : Mem) : Int32 :=
  (gi M 12 1)
def f_l_whenFalls_108_6_null_31 (x3 : Int32) (x4 : Int32) (s0 : Int32) (M : Mem) : Option Int32 :=
  some ((f_e_moment M) + s0)
def f_l_whenFalls_108_6_null (x3 : Int32) (x4 : Int32) (M : Mem) : Option Int32 :=
  (if (f_g_knows x3 M) = (0 : Int32) then
    some (-1 : Int32)
  else
    (if am_in x3 8 = true then
      (if (3 : Int32) ≤ (gi M 9 (x3).toNatClampNeg) then
        f_l_whenFalls_108_6_null_31 x3 x4 (0 : Int32) M
      else
        f_l_whenFalls_108_6_null_31 x3 x4 (3 : Int32) M)
    else none))
def f_e_enter (x1 : Int32) (x2 : Int32) (x3 : Int32) (M : Mem) : Option Mem :=
  (if (f_w_within (f_e_spoken M) (0 : Int32) (39 : Int32) M) = (0 : Int32) then
    some M
  else
    (if am_in ((6 : Int32) + (f_e_spoken M)) 66 = true then
      Option.bind (some (si M 12 (((6 : Int32) + (f_e_spoken M))).toNatClampNeg ((((f_e_moment M) ||| (x1 <<< (7 : Int32))) ||| (x2 <<< (11 : Int32))) ||| ((x3 + (1 : Int32)) <<< (14 : Int32))))) fun q1 =>
      Option.bind (some (si q1 12 4 ((f_e_spoken M) + (1 : Int32)))) fun q2 =>
      some q2
    else none))
def f_e_letGo (x1 : Int32) (M : Mem) : Option Mem :=
  Option.bind (some (si M 12 3 ((gi M 12 3) ||| x1))) fun q1 =>
  some q1
def f_e_night (M : Mem) : Int32 :=
  (gi M 12 0)
def f_e_entry (x1 : Int32) (M : Mem) : Option Int32 :=
  (if x1 < (0 : Int32) then
    some (0 : Int32)
  else
    (if (40 : Int32) ≤ x1 then
      some (0 : Int32)
    else
      (if am_in ((6 : Int32) + x1) 66 = true then
        some (gi M 12 (((6 : Int32) + x1)).toNatClampNeg)
      else none)))
def f_e_kindOf (x0 : Int32) (M : Mem) : Int32 :=
  ((x0 >>> (11 : Int32)) &&& (7 : Int32))
def f_e_wine_4 (N : Nat) : Nat → Int32 → Int32 → Mem → Option Int32
  | 0, _, _, _ => none
  | n + 1, x1, x2, M =>
    (if (f_e_spoken M) ≤ x2 then
      some x1
    else
      Option.bind (f_e_entry x2 M) fun q1 =>
      (if (f_e_kindOf q1 M) = (2 : Int32) then
        f_e_wine_4 N n (x1 + (1 : Int32)) (x2 + (1 : Int32)) M
      else
        f_e_wine_4 N n x1 (x2 + (1 : Int32)) M))
def f_e_wine (N : Nat) (M : Mem) : Option Int32 :=
  f_e_wine_4 N N (0 : Int32) (0 : Int32) M
def f_l_nameEvening (N : Nat) (M : Mem) : Option Mem :=
  Option.bind (some (si M 109 0 (f_e_night M))) fun q1 =>
  Option.bind (some (si q1 109 1 (f_e_moment q1))) fun q2 =>
  Option.bind (f_e_wine N q2) fun q3 =>
  Option.bind (some (si q2 109 2 q3)) fun q4 =>
  some q4
def f_e_whoOf (x0 : Int32) (M : Mem) : Int32 :=
  ((x0 >>> (7 : Int32)) &&& (15 : Int32))
def f_e_momentOf (x0 : Int32) (M : Mem) : Int32 :=
  (x0 &&& (127 : Int32))
def f_e_lastOf_4 (N : Nat) : Nat → Int32 → Int32 → Int32 → Mem → Option Int32
  | 0, _, _, _, _ => none
  | n + 1, x1, x2, x3, M =>
    (if (f_e_spoken M) ≤ x3 then
      some x2
    else
      Option.bind (f_e_entry x3 M) fun q1 =>
      (if (f_e_whoOf q1 M) = x1 then
        Option.bind (f_e_entry x3 M) fun q2 =>
        f_e_lastOf_4 N n x1 (f_e_momentOf q2 M) (x3 + (1 : Int32)) M
      else
        f_e_lastOf_4 N n x1 x2 (x3 + (1 : Int32)) M))
def f_e_lastOf (N : Nat) (x1 : Int32) (M : Mem) : Option Int32 :=
  f_e_lastOf_4 N N x1 (-1 : Int32) (0 : Int32) M
def f_e_wordsOf_4 (N : Nat) : Nat → Int32 → Int32 → Int32 → Mem → Option Int32
  | 0, _, _, _, _ => none
  | n + 1, x1, x2, x3, M =>
    (if (f_e_spoken M) ≤ x3 then
      some x2
    else
      Option.bind (f_e_entry x3 M) fun q1 =>
      (if (f_e_whoOf q1 M) = x1 then
        f_e_wordsOf_4 N n x1 (x2 + (1 : Int32)) (x3 + (1 : Int32)) M
      else
        f_e_wordsOf_4 N n x1 x2 (x3 + (1 : Int32)) M))
def f_e_wordsOf (N : Nat) (x1 : Int32) (M : Mem) : Option Int32 :=
  f_e_wordsOf_4 N N x1 (0 : Int32) (0 : Int32) M
def f_k_bitCount (x0 : Int32) (M : Mem) : Int32 :=
  ((((((((x0 - ((Int32.toUInt32 x0 >>> (Int32.toUInt32 (1 : Int32) &&& Int32.toUInt32 31)).toInt32 &&& (1431655765 : Int32))) &&& (858993459 : Int32)) + ((Int32.toUInt32 (x0 - ((Int32.toUInt32 x0 >>> (Int32.toUInt32 (1 : Int32) &&& Int32.toUInt32 31)).toInt32 &&& (1431655765 : Int32))) >>> (Int32.toUInt32 (2 : Int32) &&& Int32.toUInt32 31)).toInt32 &&& (858993459 : Int32))) + (Int32.toUInt32 (((x0 - ((Int32.toUInt32 x0 >>> (Int32.toUInt32 (1 : Int32) &&& Int32.toUInt32 31)).toInt32 &&& (1431655765 : Int32))) &&& (858993459 : Int32)) + ((Int32.toUInt32 (x0 - ((Int32.toUInt32 x0 >>> (Int32.toUInt32 (1 : Int32) &&& Int32.toUInt32 31)).toInt32 &&& (1431655765 : Int32))) >>> (Int32.toUInt32 (2 : Int32) &&& Int32.toUInt32 31)).toInt32 &&& (858993459 : Int32))) >>> (Int32.toUInt32 (4 : Int32) &&& Int32.toUInt32 31)).toInt32) &&& (252645135 : Int32)) + (Int32.toUInt32 (((((x0 - ((Int32.toUInt32 x0 >>> (Int32.toUInt32 (1 : Int32) &&& Int32.toUInt32 31)).toInt32 &&& (1431655765 : Int32))) &&& (858993459 : Int32)) + ((Int32.toUInt32 (x0 - ((Int32.toUInt32 x0 >>> (Int32.toUInt32 (1 : Int32) &&& Int32.toUInt32 31)).toInt32 &&& (1431655765 : Int32))) >>> (Int32.toUInt32 (2 : Int32) &&& Int32.toUInt32 31)).toInt32 &&& (858993459 : Int32))) + (Int32.toUInt32 (((x0 - ((Int32.toUInt32 x0 >>> (Int32.toUInt32 (1 : Int32) &&& Int32.toUInt32 31)).toInt32 &&& (1431655765 : Int32))) &&& (858993459 : Int32)) + ((Int32.toUInt32 (x0 - ((Int32.toUInt32 x0 >>> (Int32.toUInt32 (1 : Int32) &&& Int32.toUInt32 31)).toInt32 &&& (1431655765 : Int32))) >>> (Int32.toUInt32 (2 : Int32) &&& Int32.toUInt32 31)).toInt32 &&& (858993459 : Int32))) >>> (Int32.toUInt32 (4 : Int32) &&& Int32.toUInt32 31)).toInt32) &&& (252645135 : Int32)) >>> (Int32.toUInt32 (8 : Int32) &&& Int32.toUInt32 31)).toInt32) + (Int32.toUInt32 ((((((x0 - ((Int32.toUInt32 x0 >>> (Int32.toUInt32 (1 : Int32) &&& Int32.toUInt32 31)).toInt32 &&& (1431655765 : Int32))) &&& (858993459 : Int32)) + ((Int32.toUInt32 (x0 - ((Int32.toUInt32 x0 >>> (Int32.toUInt32 (1 : Int32) &&& Int32.toUInt32 31)).toInt32 &&& (1431655765 : Int32))) >>> (Int32.toUInt32 (2 : Int32) &&& Int32.toUInt32 31)).toInt32 &&& (858993459 : Int32))) + (Int32.toUInt32 (((x0 - ((Int32.toUInt32 x0 >>> (Int32.toUInt32 (1 : Int32) &&& Int32.toUInt32 31)).toInt32 &&& (1431655765 : Int32))) &&& (858993459 : Int32)) + ((Int32.toUInt32 (x0 - ((Int32.toUInt32 x0 >>> (Int32.toUInt32 (1 : Int32) &&& Int32.toUInt32 31)).toInt32 &&& (1431655765 : Int32))) >>> (Int32.toUInt32 (2 : Int32) &&& Int32.toUInt32 31)).toInt32 &&& (858993459 : Int32))) >>> (Int32.toUInt32 (4 : Int32) &&& Int32.toUInt32 31)).toInt32) &&& (252645135 : Int32)) + (Int32.toUInt32 (((((x0 - ((Int32.toUInt32 x0 >>> (Int32.toUInt32 (1 : Int32) &&& Int32.toUInt32 31)).toInt32 &&& (1431655765 : Int32))) &&& (858993459 : Int32)) + ((Int32.toUInt32 (x0 - ((Int32.toUInt32 x0 >>> (Int32.toUInt32 (1 : Int32) &&& Int32.toUInt32 31)).toInt32 &&& (1431655765 : Int32))) >>> (Int32.toUInt32 (2 : Int32) &&& Int32.toUInt32 31)).toInt32 &&& (858993459 : Int32))) + (Int32.toUInt32 (((x0 - ((Int32.toUInt32 x0 >>> (Int32.toUInt32 (1 : Int32) &&& Int32.toUInt32 31)).toInt32 &&& (1431655765 : Int32))) &&& (858993459 : Int32)) + ((Int32.toUInt32 (x0 - ((Int32.toUInt32 x0 >>> (Int32.toUInt32 (1 : Int32) &&& Int32.toUInt32 31)).toInt32 &&& (1431655765 : Int32))) >>> (Int32.toUInt32 (2 : Int32) &&& Int32.toUInt32 31)).toInt32 &&& (858993459 : Int32))) >>> (Int32.toUInt32 (4 : Int32) &&& Int32.toUInt32 31)).toInt32) &&& (252645135 : Int32)) >>> (Int32.toUInt32 (8 : Int32) &&& Int32.toUInt32 31)).toInt32) >>> (Int32.toUInt32 (16 : Int32) &&& Int32.toUInt32 31)).toInt32) &&& (63 : Int32))
def f_e_fallsOf (x0 : Int32) (M : Mem) : Int32 :=
  ((x0 >>> (14 : Int32)) - (1 : Int32))
def f_w_bitOf (x0 : Int32) (M : Mem) : Int32 :=
  (if x0 < (0 : Int32) then
    (0 : Int32)
  else
    (if (8 : Int32) ≤ x0 then
      (0 : Int32)
    else
      ((1 : Int32) <<< (x0 &&& 31))))
def f_w_joined (x0 : Int32) (x1 : Int32) (x2 : Int32) (M : Mem) : Int32 :=
  (if (x1 + (1 : Int32)) ≤ (x0 >>> (8 : Int32)) then
    (if (x1 + (1 : Int32)) = (x0 >>> (8 : Int32)) then
      (x0 ||| x2)
    else
      x0)
  else
    (((x1 + (1 : Int32)) <<< (8 : Int32)) ||| x2))
def f_e_standing_4 (N : Nat) : Nat → Int32 → Int32 → Int32 → Mem → Option Int32
  | 0, _, _, _, _ => none
  | n + 1, x1, x2, x3, M =>
    (if (f_e_spoken M) ≤ x3 then
      some x2
    else
      Option.bind (f_e_entry x3 M) fun q1 =>
      (if (f_e_fallsOf q1 M) = (-1 : Int32) then
        f_e_standing_4 N n x1 x2 (x3 + (1 : Int32)) M
      else
        (if x1 ≤ (f_e_fallsOf q1 M) then
          f_e_standing_4 N n x1 x2 (x3 + (1 : Int32)) M
        else
          f_e_standing_4 N n x1 (f_w_joined x2 (f_e_fallsOf q1 M) (f_w_bitOf (f_e_whoOf q1 M) M) M) (x3 + (1 : Int32)) M)))
def f_e_standing (N : Nat) (x1 : Int32) (M : Mem) : Option Int32 :=
  f_e_standing_4 N N x1 (0 : Int32) (0 : Int32) M
def f_w_holders (x0 : Int32) (M : Mem) : Int32 :=
  (x0 &&& (255 : Int32))
def f_e_holdNow (N : Nat) (M : Mem) : Option Int32 :=
  Option.bind (f_e_standing N (f_e_moment M) M) fun q1 =>
  some (f_w_holders q1 M)
def f_l_nameSpeaker_107 (N : Nat) (x2 : Int32) (s1 : Int32) (s2 : Int32) (M : Mem) : Option Mem :=
  (if am_in s1 12 = true then
    Option.bind (some (si M 109 (s1).toNatClampNeg s2)) fun q8 =>
    Option.bind (some (si q8 109 8 (f_k_bitCount (f_t_there q8) q8))) fun q9 =>
    Option.bind (f_e_holdNow N q9) fun q10 =>
    Option.bind (some (si q9 109 9 ((q10 >>> (x2 &&& 31)) &&& (1 : Int32)))) fun q11 =>
    some q11
  else none)
def f_l_nameSpeaker (N : Nat) (x2 : Int32) (x3 : Int32) (M : Mem) : Option Mem :=
  (if (f_g_knows x2 M) = (0 : Int32) then
    some M
  else
    Option.bind (f_l_nameEvening N M) fun q1 =>
    Option.bind (f_e_lastOf N x2 q1) fun q2 =>
    (if am_in x2 8 = true then
      Option.bind (some (si q1 109 3 (gi q1 8 (x2).toNatClampNeg))) fun q3 =>
      (if am_in x2 8 = true then
        Option.bind (some (si q3 109 4 (gi q3 9 (x2).toNatClampNeg))) fun q4 =>
        Option.bind (some (si q4 109 5 x3)) fun q5 =>
        Option.bind (f_e_wordsOf N x2 q5) fun q6 =>
        Option.bind (some (si q5 109 6 q6)) fun q7 =>
        (if q2 = (-1 : Int32) then
          f_l_nameSpeaker_107 N x2 (7 : Int32) (99 : Int32) q7
        else
          f_l_nameSpeaker_107 N x2 (7 : Int32) ((f_e_moment q7) - q2) q7)
      else none)
    else none))
def f_p_startOf_a (a : Nat) (x1 : Int32) (M : Mem) : Option Int32 :=
  (if (f_w_within x1 (12 : Int32) (14 : Int32) M) = (0 : Int32) then
    some (-1 : Int32)
  else
    (if am_in (x1 - (12 : Int32)) 3 = true then
      some (gi M (a + 3) ((x1 - (12 : Int32))).toNatClampNeg)
    else none))
def f_l_pop (M : Mem) : Option (Int32 × Mem) :=
  (if (gi M 108 2) < (1 : Int32) then
    some ((0 : Int32), M)
  else
    (if (gi M 108 2) ≤ (64 : Int32) then
      Option.bind (some (si M 108 2 ((gi M 108 2) - (1 : Int32)))) fun q1 =>
      (if am_in (gi q1 108 2) 64 = true then
        some ((gi q1 110 ((gi q1 108 2)).toNatClampNeg), q1)
      else none)
    else
      some ((0 : Int32), M)))
def f_p_opAt (a : Nat) (x1 : Int32) (M : Mem) : Option Int32 :=
  (if x1 < (0 : Int32) then
    some (53 : Int32)
  else
    (if (gi M a 3) ≤ x1 then
      some (53 : Int32)
    else
      (if (300 : Int32) ≤ x1 then
        some (53 : Int32)
      else
        (if am_in x1 300 = true then
          some ((gi M (a + 1) (x1).toNatClampNeg) &&& (63 : Int32))
        else none))))
def f_p_argumentAt_a (a : Nat) (x1 : Int32) (M : Mem) : Option Int32 :=
  (if x1 < (0 : Int32) then
    some (0 : Int32)
  else
    (if (gi M a 3) ≤ x1 then
      some (0 : Int32)
    else
      (if (300 : Int32) ≤ x1 then
        some (0 : Int32)
      else
        (if am_in x1 300 = true then
          some ((gi M (a + 1) (x1).toNatClampNeg) >>> (6 : Int32))
        else none))))
def f_l_push (x1 : Int32) (M : Mem) : Option Mem :=
  (if (gi M 108 2) < (0 : Int32) then
    some M
  else
    (if (64 : Int32) ≤ (gi M 108 2) then
      some M
    else
      (if am_in (gi M 108 2) 64 = true then
        Option.bind (some (si M 110 ((gi M 108 2)).toNatClampNeg x1)) fun q1 =>
        Option.bind (some (si q1 108 2 ((gi q1 108 2) + (1 : Int32)))) fun q2 =>
        some q2
      else none)))
def f_l_behindCase (a : Nat) (x2 : Int32) (M : Mem) : Option (Int32 × Mem) :=
  Option.bind (f_l_pop M) fun q1 =>
  Option.bind (f_p_argumentAt_a a x2 q1.2) fun q2 =>
  Option.bind (f_p_argumentAt_a a (x2 + (1 : Int32)) q1.2) fun q3 =>
  (if (f_w_within q1.1 q2 q3 q1.2) = (0 : Int32) then
    Option.bind (f_l_push q1.1 q1.2) fun q4 =>
    Option.bind (f_p_argumentAt_a a (x2 + (2 : Int32)) q4) fun q5 =>
    some (q5, q4)
  else
    some ((x2 + (3 : Int32)), q1.2))
def f_l_compared (x0 : Int32) (x1 : Int32) (x2 : Int32) (M : Mem) : Int32 :=
  (if x0 = (24 : Int32) then
    (x1 ||| x2)
  else (if x0 = (34 : Int32) then
    (if x2 ≤ x1 then
      (0 : Int32)
    else
      (1 : Int32))
  else (if x0 = (35 : Int32) then
    (if x1 ≤ x2 then
      (0 : Int32)
    else
      (1 : Int32))
  else (if x0 = (36 : Int32) then
    (if x1 = x2 then
      (1 : Int32)
    else
      (0 : Int32))
  else (if x0 = (37 : Int32) then
    (if x1 = x2 then
      (0 : Int32)
    else
      (1 : Int32))
  else (if x0 = (46 : Int32) then
    (if x2 < x1 then
      (0 : Int32)
    else
      (1 : Int32))
  else (if x0 = (47 : Int32) then
    (if x1 < x2 then
      (0 : Int32)
    else
      (1 : Int32))
  else 
    (x1 &&& x2))))))))
def f_l_counted (x0 : Int32) (x1 : Int32) (x2 : Int32) (M : Mem) : Option Int32 :=
  (if x0 = (38 : Int32) then
    some (Int64.toInt32 (f_k_max1 (-1000000 : Int64) (f_k_min1 (1000000 : Int64) ((Int32.toInt64 x1) + (Int32.toInt64 x2)) M) M))
  else (if x0 = (39 : Int32) then
    some (Int64.toInt32 (f_k_max1 (-1000000 : Int64) (f_k_min1 (1000000 : Int64) ((Int32.toInt64 x1) - (Int32.toInt64 x2)) M) M))
  else (if x0 = (40 : Int32) then
    some (Int64.toInt32 (f_k_max1 (-1000000 : Int64) (f_k_min1 (1000000 : Int64) ((Int32.toInt64 x1) * (Int32.toInt64 x2)) M) M))
  else 
    (if x2 = (0 : Int32) then
      some (Int64.toInt32 (0 : Int64))
    else
      (if x2 = 0 then none else
        some (Int64.toInt32 (f_k_max1 (-1000000 : Int64) (f_k_min1 (1000000 : Int64) (Int32.toInt64 (x1 / x2)) M) M)))))))
def f_l_work (x1 : Int32) (x2 : Int32) (M : Mem) : Option Mem :=
  (if (f_w_within x1 (0 : Int32) (11 : Int32) M) = (0 : Int32) then
    (if x1 = (33 : Int32) then
      Option.bind (f_l_push x2 M) fun q1 =>
      some q1
    else
      (if x1 = (50 : Int32) then
        Option.bind (f_l_pop M) fun q2 =>
        Option.bind (f_l_push (-q2.1) q2.2) fun q3 =>
        some q3
      else
        (if x1 = (26 : Int32) then
          Option.bind (f_l_pop M) fun q4 =>
          Option.bind (f_l_push ((1 : Int32) - q4.1) q4.2) fun q5 =>
          some q5
        else
          (if x1 = (52 : Int32) then
            Option.bind (f_l_pop M) fun q6 =>
            some q6.2
          else
            Option.bind (f_l_pop M) fun q7 =>
            Option.bind (f_l_pop q7.2) fun q8 =>
            (if x1 ≤ (37 : Int32) then
              Option.bind (f_l_push (f_l_compared x1 q8.1 q7.1 q8.2) q8.2) fun q9 =>
              some q9
            else
              (if x1 < (46 : Int32) then
                Option.bind (f_l_counted x1 q8.1 q7.1 q8.2) fun q10 =>
                Option.bind (f_l_push q10 q8.2) fun q11 =>
                some q11
              else
                Option.bind (f_l_push (f_l_compared x1 q8.1 q7.1 q8.2) q8.2) fun q12 =>
                some q12))))))
  else
    (if am_in x1 12 = true then
      Option.bind (f_l_push (gi M 109 (x1).toNatClampNeg) M) fun q13 =>
      some q13
    else none))
def f_l_run_10 (N : Nat) (a : Nat) : Nat → Int32 → Int32 → Mem → Option (Int32 × Mem)
  | 0, _, _, _ => none
  | n + 1, x3, x4, M =>
    (if (300 : Int32) ≤ x4 then
      Option.bind (f_l_pop M) fun q2 =>
      some (q2.1, q2.2)
    else
      Option.bind (f_p_opAt a x3 M) fun q3 =>
      (if q3 = (53 : Int32) then
        Option.bind (f_l_pop M) fun q4 =>
        some (q4.1, q4.2)
      else
        Option.bind (f_p_opAt a x3 M) fun q5 =>
        (if q5 = (51 : Int32) then
          Option.bind (f_p_argumentAt_a a x3 M) fun q6 =>
          f_l_run_10 N a n q6 (x4 + (1 : Int32)) M
        else
          (if q5 = (28 : Int32) then
            Option.bind (f_l_behindCase a x3 M) fun q7 =>
            f_l_run_10 N a n q7.1 (x4 + (1 : Int32)) q7.2
          else
            Option.bind (f_p_argumentAt_a a x3 M) fun q8 =>
            Option.bind (f_l_work q5 q8 M) fun q9 =>
            f_l_run_10 N a n (x3 + (1 : Int32)) (x4 + (1 : Int32)) q9))))
def f_l_run (N : Nat) (a : Nat) (x2 : Int32) (M : Mem) : Option (Int32 × Mem) :=
  Option.bind (some (si M 108 2 (0 : Int32))) fun q1 =>
  f_l_run_10 N a N x2 (0 : Int32) q1
def f_l_whenFalls_108_6_a_86 (N : Nat) (a : Nat) (x5 : Int32) (x6 : Int32) (M : Mem) : Option (Int32 × Mem) :=
  Option.bind (f_p_startOf_a a (13 : Int32) M) fun q5 =>
  (if q5 = (-1 : Int32) then
    some ((x6 + x5), M)
  else
    Option.bind (f_p_startOf_a a (13 : Int32) M) fun q6 =>
    Option.bind (f_l_run N a q6 M) fun q7 =>
    some ((x6 + (f_k_max0 (0 : Int32) (f_k_min0 (99 : Int32) q7.1 q7.2) q7.2)), q7.2))
def f_l_whenFalls_108_6_a_31 (N : Nat) (a : Nat) (x3 : Int32) (x4 : Int32) (s0 : Int32) (M : Mem) : Option (Int32 × Mem) :=
  Option.bind (f_l_nameSpeaker N x3 x4 M) fun q1 =>
  Option.bind (f_p_startOf_a a (12 : Int32) q1) fun q2 =>
  (if q2 = (-1 : Int32) then
    f_l_whenFalls_108_6_a_86 N a s0 (f_e_moment M) q1
  else
    Option.bind (f_p_startOf_a a (12 : Int32) q1) fun q3 =>
    Option.bind (f_l_run N a q3 q1) fun q4 =>
    (if q4.1 = (0 : Int32) then
      some ((-1 : Int32), q4.2)
    else
      f_l_whenFalls_108_6_a_86 N a s0 (f_e_moment M) q4.2))
def f_l_whenFalls_108_6_a (N : Nat) (a : Nat) (x3 : Int32) (x4 : Int32) (M : Mem) : Option (Int32 × Mem) :=
  (if (f_g_knows x3 M) = (0 : Int32) then
    some ((-1 : Int32), M)
  else
    (if am_in x3 8 = true then
      (if (3 : Int32) ≤ (gi M 9 (x3).toNatClampNeg) then
        f_l_whenFalls_108_6_a_31 N a x3 x4 (0 : Int32) M
      else
        f_l_whenFalls_108_6_a_31 N a x3 x4 (3 : Int32) M)
    else none))
def f_w_speak_38 (N : Nat) (x1 : Int32) (x2 : Int32) (M : Mem) : Option (Int32 × Mem) :=
  (match w_scr (gi M 6 5) with
  | none =>
    Option.bind (f_l_whenFalls_108_6_null x1 x2 M) fun q2 =>
    Option.bind (f_e_enter x1 x2 q2 M) fun q3 =>
    (if x2 = (3 : Int32) then
      Option.bind (f_e_letGo ((1 : Int32) <<< (x1 &&& 31)) q3) fun q4 =>
      some (q2, q4)
    else
      some (q2, q3))
  | some a =>
    Option.bind (f_l_whenFalls_108_6_a N a x1 x2 M) fun q5 =>
    Option.bind (f_e_enter x1 x2 q5.1 q5.2) fun q6 =>
    (if x2 = (3 : Int32) then
      Option.bind (f_e_letGo ((1 : Int32) <<< (x1 &&& 31)) q6) fun q7 =>
      some (q5.1, q7)
    else
      some (q5.1, q6)))
def f_w_speak (N : Nat) (x1 : Int32) (x2 : Int32) (x3 : Int32) (M : Mem) : Option (Int32 × Mem) :=
  (if (f_t_isThere x1 M) = (0 : Int32) then
    some ((-2 : Int32), M)
  else
    (if (f_e_isFull M) = (0 : Int32) then
      (if x3 = (0 : Int32) then
        f_w_speak_38 N x1 x2 M
      else
        Option.bind (f_t_keepStep M) fun q1 =>
        f_w_speak_38 N x1 x2 q1)
    else
      some ((-2 : Int32), M)))
def f_w_say (N : Nat) (x1 : Int32) (x2 : Int32) (M : Mem) : Option (Int32 × Mem) :=
  (if (f_w_within x2 (0 : Int32) (3 : Int32) M) = (0 : Int32) then
    some ((-2 : Int32), M)
  else
    Option.bind (f_w_speak N x1 x2 (1 : Int32) M) fun q1 =>
    some (q1.1, q1.2))
def f_m_isGuest (x1 : Int32) (M : Mem) : Int32 :=
  (f_m_isIn x1 (0 : Int32) ((gi M 130 0) - (1 : Int32)) M)
def f_m_get (x1 : Int32) (x2 : Int32) (M : Mem) : Option Int32 :=
  (if am_in (((12 : Int32) + ((7 : Int32) * x1)) + x2) 3826 = true then
    some (gi M 130 ((((12 : Int32) + ((7 : Int32) * x1)) + x2)).toNatClampNeg)
  else none)
def f_m_isThere (x1 : Int32) (M : Mem) : Option Int32 :=
  Option.bind (f_m_get x1 (3 : Int32) M) fun q1 =>
  (if q1 = (1 : Int32) then
    some (1 : Int32)
  else
    some (0 : Int32))
def f_m_canSay (x1 : Int32) (M : Mem) : Option Int32 :=
  Option.bind (f_m_isThere x1 M) fun q1 =>
  (if q1 = (0 : Int32) then
    some (0 : Int32)
  else
    (if (40 : Int32) ≤ (gi M 130 8) then
      some (0 : Int32)
    else
      some (1 : Int32)))
def f_m_keep_155 (N : Nat) (K147 : Int32 → Int32 → Mem → Option Mem) : Nat → Int32 → Int32 → Int32 → Mem → Option Mem
  | 0, _, _, _, _ => none
  | n + 1, x1, x2, x3, M =>
    (if (4 : Int32) ≤ x3 then
      K147 x1 (x2 + (1 : Int32)) M
    else
      Option.bind (f_m_get x2 ((3 : Int32) + x3) M) fun q5 =>
      (if am_in (((x1 + (7 : Int32)) + ((4 : Int32) * x2)) + x3) 3826 = true then
        Option.bind (some (si M 130 ((((x1 + (7 : Int32)) + ((4 : Int32) * x2)) + x3)).toNatClampNeg q5)) fun q6 =>
        f_m_keep_155 N K147 n x1 x2 (x3 + (1 : Int32)) q6
      else none))
def f_m_keep_197 (N : Nat) : Nat → Int32 → Int32 → Mem → Option Mem
  | 0, _, _, _ => none
  | n + 1, x1, x2, M =>
    (if (40 : Int32) ≤ x2 then
      Option.bind (some (si M 130 7 ((gi M 130 7) + (1 : Int32)))) fun q7 =>
      some q7
    else
      (if am_in ((68 : Int32) + x2) 3826 = true then
        (if am_in ((x1 + (39 : Int32)) + x2) 3826 = true then
          Option.bind (some (si M 130 (((x1 + (39 : Int32)) + x2)).toNatClampNeg (gi M 130 (((68 : Int32) + x2)).toNatClampNeg))) fun q8 =>
          f_m_keep_197 N n x1 (x2 + (1 : Int32)) q8
        else none)
      else none))
def f_m_keep_147 (N : Nat) : Nat → Int32 → Int32 → Mem → Option Mem
  | 0, _, _, _ => none
  | n + 1, x1, x2, M =>
    (if (8 : Int32) ≤ x2 then
      f_m_keep_197 N N x1 (0 : Int32) M
    else
      f_m_keep_155 N (f_m_keep_147 N n) N x1 x2 (0 : Int32) M)
def f_m_keep_85 (N : Nat) : Nat → Int32 → Int32 → Mem → Option Mem
  | 0, _, _, _ => none
  | n + 1, x1, x2, M =>
    (if (4 : Int32) ≤ x2 then
      (if am_in (x1 + (5 : Int32)) 3826 = true then
        Option.bind (some (si M 130 ((x1 + (5 : Int32))).toNatClampNeg (gi M 130 8))) fun q2 =>
        (if am_in (x1 + (6 : Int32)) 3826 = true then
          Option.bind (some (si q2 130 ((x1 + (6 : Int32))).toNatClampNeg (gi q2 130 9))) fun q3 =>
          f_m_keep_147 N N x1 (0 : Int32) q3
        else none)
      else none)
    else
      (if am_in ((1 : Int32) + x2) 3826 = true then
        (if am_in ((x1 + (1 : Int32)) + x2) 3826 = true then
          Option.bind (some (si M 130 (((x1 + (1 : Int32)) + x2)).toNatClampNeg (gi M 130 (((1 : Int32) + x2)).toNatClampNeg))) fun q4 =>
          f_m_keep_85 N n x1 (x2 + (1 : Int32)) q4
        else none)
      else none))
def f_m_keep_57 (N : Nat) (M : Mem) : Option Mem :=
  (if am_in ((126 : Int32) + ((80 : Int32) * (gi M 130 7))) 3826 = true then
    Option.bind (some (si M 130 (((126 : Int32) + ((80 : Int32) * (gi M 130 7)))).toNatClampNeg (gi M 130 0))) fun q1 =>
    f_m_keep_85 N N ((126 : Int32) + ((80 : Int32) * (gi M 130 7))) (0 : Int32) q1
  else none)
def f_m_keep_14 (N : Nat) : Nat → Int32 → Mem → Option Mem
  | 0, _, _ => none
  | n + 1, x1, M =>
    (if (2320 : Int32) ≤ x1 then
      Option.bind (some (si M 130 7 ((gi M 130 7) - (1 : Int32)))) fun q9 =>
      f_m_keep_57 N q9
    else
      (if am_in ((206 : Int32) + x1) 3826 = true then
        (if am_in ((126 : Int32) + x1) 3826 = true then
          Option.bind (some (si M 130 (((126 : Int32) + x1)).toNatClampNeg (gi M 130 (((206 : Int32) + x1)).toNatClampNeg))) fun q10 =>
          f_m_keep_14 N n (x1 + (1 : Int32)) q10
        else none)
      else none))
def f_m_keep (N : Nat) (M : Mem) : Option Mem :=
  (if (gi M 130 7) = (30 : Int32) then
    f_m_keep_14 N N (0 : Int32) M
  else
    f_m_keep_57 N M)
def f_m_there_4 (N : Nat) : Nat → Int32 → Int32 → Mem → Option Int32
  | 0, _, _, _ => none
  | n + 1, x1, x2, M =>
    (if (gi M 130 0) ≤ x2 then
      some x1
    else
      Option.bind (f_m_isThere x2 M) fun q1 =>
      (if q1 = (0 : Int32) then
        f_m_there_4 N n (x1 ||| (0 : Int32)) (x2 + (1 : Int32)) M
      else
        f_m_there_4 N n (x1 ||| ((1 : Int32) <<< (x2 &&& 31))) (x2 + (1 : Int32)) M))
def f_m_there (N : Nat) (M : Mem) : Option Int32 :=
  f_m_there_4 N N (0 : Int32) (0 : Int32) M
def f_m_bits_4 (N : Nat) : Nat → Int32 → Int32 → Int32 → Mem → Option Int32
  | 0, _, _, _, _ => none
  | n + 1, x0, x1, x2, M =>
    (if (8 : Int32) ≤ x2 then
      some x1
    else
      f_m_bits_4 N n x0 (x1 + ((x0 >>> (x2 &&& 31)) &&& (1 : Int32))) (x2 + (1 : Int32)) M)
def f_m_bits (N : Nat) (x0 : Int32) (M : Mem) : Option Int32 :=
  f_m_bits_4 N N x0 (0 : Int32) (0 : Int32) M
def f_m_startHolding (M : Mem) : Option Mem :=
  Option.bind (some (si M 129 28 (-1 : Int32))) fun q1 =>
  Option.bind (some (si q1 129 29 (0 : Int32))) fun q2 =>
  some q2
def f_m_fallsOf (x1 : Int32) (M : Mem) : Option Int32 :=
  (if am_in ((68 : Int32) + x1) 3826 = true then
    some (((gi M 130 (((68 : Int32) + x1)).toNatClampNeg) - (gi M 130 (((68 : Int32) + x1)).toNatClampNeg) / (256 : Int32) * (256 : Int32)) - (1 : Int32))
  else none)
def f_m_whoOf (x1 : Int32) (M : Mem) : Option Int32 :=
  (if am_in ((68 : Int32) + x1) 3826 = true then
    some (((gi M 130 (((68 : Int32) + x1)).toNatClampNeg) / (2048 : Int32)) - ((gi M 130 (((68 : Int32) + x1)).toNatClampNeg) / (2048 : Int32)) / (16 : Int32) * (16 : Int32))
  else none)
def f_m_consider_26 (x1 : Int32) (x2 : Int32) (M : Mem) : Option Mem :=
  Option.bind (some (si M 129 28 x2)) fun q2 =>
  (if x1 = (8 : Int32) then
    some q2
  else
    Option.bind (some (si q2 129 29 ((gi q2 129 29) ||| ((1 : Int32) <<< (x1 &&& 31))))) fun q3 =>
    some q3)
def f_m_consider (x1 : Int32) (x2 : Int32) (M : Mem) : Option Mem :=
  (if x2 < (0 : Int32) then
    some M
  else
    (if (gi M 129 28) ≤ x2 then
      (if x2 ≤ (gi M 129 28) then
        f_m_consider_26 x1 x2 M
      else
        Option.bind (some (si M 129 29 (0 : Int32))) fun q1 =>
        f_m_consider_26 x1 x2 q1)
    else
      some M))
def f_m_holdBy_6 (N : Nat) : Nat → Int32 → Int32 → Mem → Option (Int32 × Mem)
  | 0, _, _, _ => none
  | n + 1, x1, x2, M =>
    (if (gi M 130 8) ≤ x2 then
      some ((gi M 129 29), M)
    else
      Option.bind (f_m_fallsOf x2 M) fun q2 =>
      (if x1 < q2 then
        f_m_holdBy_6 N n x1 (x2 + (1 : Int32)) M
      else
        Option.bind (f_m_whoOf x2 M) fun q3 =>
        Option.bind (f_m_fallsOf x2 M) fun q4 =>
        Option.bind (f_m_consider q3 q4 M) fun q5 =>
        f_m_holdBy_6 N n x1 (x2 + (1 : Int32)) q5))
def f_m_holdBy (N : Nat) (x1 : Int32) (M : Mem) : Option (Int32 × Mem) :=
  Option.bind (f_m_startHolding M) fun q1 =>
  f_m_holdBy_6 N N x1 (0 : Int32) q1
def f_m_holdNow (N : Nat) (M : Mem) : Option (Int32 × Mem) :=
  Option.bind (f_m_holdBy N ((gi M 130 2) - (1 : Int32)) M) fun q1 =>
  some (q1.1, q1.2)
def f_m_clauseOf_2 (N : Nat) : Nat → Int32 → Int32 → Mem → Option Int32
  | 0, _, _, _ => none
  | n + 1, x1, x2, M =>
    (if (gi M 130 6) < (0 : Int32) then
      some (-1 : Int32)
    else
      (if am_in ((705 : Int32) * (gi M 130 6)) 2820 = true then
        (if (gi M 132 (((705 : Int32) * (gi M 130 6))).toNatClampNeg) ≤ x2 then
          some (-1 : Int32)
        else
          (if am_in ((((705 : Int32) * (gi M 130 6)) + (1 : Int32)) + ((4 : Int32) * x2)) 2820 = true then
            (if (gi M 132 (((((705 : Int32) * (gi M 130 6)) + (1 : Int32)) + ((4 : Int32) * x2))).toNatClampNeg) = x1 then
              some x2
            else
              f_m_clauseOf_2 N n x1 (x2 + (1 : Int32)) M)
          else none))
      else none))
def f_m_clauseOf (N : Nat) (x1 : Int32) (M : Mem) : Option Int32 :=
  f_m_clauseOf_2 N N x1 (0 : Int32) M
def f_m_choose_15 (N : Nat) : Nat → Int32 → Int32 → Int32 → Int32 → Mem → Option (Int32 × Mem)
  | 0, _, _, _, _, _ => none
  | n + 1, x3, x4, x5, x6, M =>
    (if x6 < (0 : Int32) then
      (if am_in ((x4 + (1 : Int32)) + x5) 330 = true then
        (if am_in x4 330 = true then
          Option.bind (some (sj M 139 (x4).toNatClampNeg (gj M 139 (((x4 + (1 : Int32)) + x5)).toNatClampNeg))) fun q1 =>
          some ((x4 + (1 : Int32)), q1)
        else none)
      else none)
    else
      (if am_in x4 330 = true then
        (if am_in (x3 + ((2 : Int32) * x6)) 2820 = true then
          (if (lg_cmp (gj M 139 (x4).toNatClampNeg) (Int32.toInt64 (gi M 132 ((x3 + ((2 : Int32) * x6))).toNatClampNeg))) < (0 : Int32) then
            f_m_choose_15 N n x3 x4 x5 (x6 + (-1 : Int32)) M
          else
            (if am_in x4 330 = true then
              (if am_in ((x3 + ((2 : Int32) * x6)) + (1 : Int32)) 2820 = true then
                (if (0 : Int32) < (lg_cmp (gj M 139 (x4).toNatClampNeg) (Int32.toInt64 (gi M 132 (((x3 + ((2 : Int32) * x6)) + (1 : Int32))).toNatClampNeg))) then
                  f_m_choose_15 N n x3 x4 x5 (x6 + (-1 : Int32)) M
                else
                  f_m_choose_15 N n x3 x4 x6 (x6 + (-1 : Int32)) M)
              else none)
            else none))
        else none)
      else none))
def f_m_choose (N : Nat) (x1 : Int32) (x2 : Int32) (x3 : Int32) (M : Mem) : Option (Int32 × Mem) :=
  f_m_choose_15 N N x3 ((x1 - x2) - (2 : Int32)) x2 (x2 - (1 : Int32)) M
def f_m_isAsked (x0 : Int32) (x1 : Int64) (x3 : Int64) (M : Mem) : Int32 :=
  (if x0 = (10 : Int32) then
    (if (0 : Int32) ≤ (lg_cmp x1 x3) then
      (0 : Int32)
    else
      (1 : Int32))
  else
    (if x0 = (11 : Int32) then
      (if (0 : Int32) < (lg_cmp x1 x3) then
        (0 : Int32)
      else
        (1 : Int32))
    else
      (if x0 = (12 : Int32) then
        (if (lg_cmp x1 x3) ≤ (0 : Int32) then
          (0 : Int32)
        else
          (1 : Int32))
      else
        (if x0 = (13 : Int32) then
          (if (lg_cmp x1 x3) < (0 : Int32) then
            (0 : Int32)
          else
            (1 : Int32))
        else
          (if x0 = (14 : Int32) then
            (if (lg_cmp x1 x3) = (0 : Int32) then
              (1 : Int32)
            else
              (0 : Int32))
          else
            (if (lg_cmp x1 x3) = (0 : Int32) then
              (0 : Int32)
            else
              (1 : Int32)))))))
def f_m_clip (x0 : Int64) (M : Mem) : Int64 :=
  (if (lg_cmp x0 (1000000 : Int64)) ≤ (0 : Int32) then
    (if (0 : Int32) ≤ (lg_cmp x0 (-1000000 : Int64)) then
      x0
    else
      (-1000000 : Int64))
  else
    (1000000 : Int64))
def f_m_two (x0 : Int32) (x1 : Int64) (x3 : Int64) (M : Mem) : Option Int64 :=
  (if x0 = (4 : Int32) then
    some (f_m_clip (x1 + x3) M)
  else (if x0 = (5 : Int32) then
    some (f_m_clip (x1 - x3) M)
  else (if x0 = (6 : Int32) then
    some (f_m_clip (x1 * x3) M)
  else 
    (if (lg_cmp x3 (0 : Int64)) = (0 : Int32) then
      some (0 : Int64)
    else
      (if x3 = 0 then none else
        some (f_m_clip (x1 / x3) M))))))
def f_m_work_49 (N : Nat) : Nat → Int32 → Int32 → Int32 → Int32 → Int32 → Mem → Option Mem
  | 0, _, _, _, _, _, _ => none
  | n + 1, x2, x3, x4, x5, x6, M =>
    (if am_in (x2 + (2 : Int32)) 2820 = true then
      (if (gi M 132 ((x2 + (2 : Int32))).toNatClampNeg) ≤ x6 then
        some M
      else
        (if am_in (x3 + ((2 : Int32) * x6)) 2820 = true then
          (if am_in ((x3 + ((2 : Int32) * x6)) + (1 : Int32)) 2820 = true then
            (if (1 : Int32) < (gi M 132 ((x3 + ((2 : Int32) * x6))).toNatClampNeg) then
              (if (gi M 132 ((x3 + ((2 : Int32) * x6))).toNatClampNeg) = (2 : Int32) then
                Option.bind (f_m_choose N x4 (gi M 132 (((x3 + ((2 : Int32) * x6)) + (1 : Int32))).toNatClampNeg) ((x3 + ((2 : Int32) * x6)) + (2 : Int32)) M) fun q1 =>
                f_m_work_49 N n x2 x3 q1.1 x5 ((x6 + (gi M 132 (((x3 + ((2 : Int32) * x6)) + (1 : Int32))).toNatClampNeg)) + (1 : Int32)) q1.2
              else
                (if (gi M 132 ((x3 + ((2 : Int32) * x6))).toNatClampNeg) = (3 : Int32) then
                  (if am_in (x4 - (1 : Int32)) 330 = true then
                    (if am_in (x4 - (1 : Int32)) 330 = true then
                      Option.bind (some (sj M 139 ((x4 - (1 : Int32))).toNatClampNeg (-(gj M 139 ((x4 - (1 : Int32))).toNatClampNeg)))) fun q2 =>
                      f_m_work_49 N n x2 x3 x4 x5 (x6 + (1 : Int32)) q2
                    else none)
                  else none)
                else
                  (if (10 : Int32) ≤ (gi M 132 ((x3 + ((2 : Int32) * x6))).toNatClampNeg) then
                    (if (20 : Int32) ≤ (gi M 132 ((x3 + ((2 : Int32) * x6))).toNatClampNeg) then
                      (if (gi M 132 ((x3 + ((2 : Int32) * x6))).toNatClampNeg) = (20 : Int32) then
                        (if am_in (x5 - (1 : Int32)) 330 = true then
                          (if (gi M 140 ((x5 - (1 : Int32))).toNatClampNeg) = (0 : Int32) then
                            (if am_in (x5 - (1 : Int32)) 330 = true ∧ ((1 : Int32) = 0 ∨ (1 : Int32) = 1) then
                              Option.bind (some (si M 140 ((x5 - (1 : Int32))).toNatClampNeg (1 : Int32))) fun q3 =>
                              f_m_work_49 N n x2 x3 x4 x5 (x6 + (1 : Int32)) q3
                            else none)
                          else
                            (if am_in (x5 - (1 : Int32)) 330 = true ∧ ((0 : Int32) = 0 ∨ (0 : Int32) = 1) then
                              Option.bind (some (si M 140 ((x5 - (1 : Int32))).toNatClampNeg (0 : Int32))) fun q4 =>
                              f_m_work_49 N n x2 x3 x4 x5 (x6 + (1 : Int32)) q4
                            else none))
                        else none)
                      else
                        (if (gi M 132 ((x3 + ((2 : Int32) * x6))).toNatClampNeg) = (21 : Int32) then
                          (if am_in ((x5 + (-1 : Int32)) - (1 : Int32)) 330 = true then
                            (if (gi M 140 (((x5 + (-1 : Int32)) - (1 : Int32))).toNatClampNeg) = (0 : Int32) then
                              (if am_in ((x5 + (-1 : Int32)) - (1 : Int32)) 330 = true ∧ ((0 : Int32) = 0 ∨ (0 : Int32) = 1) then
                                Option.bind (some (si M 140 (((x5 + (-1 : Int32)) - (1 : Int32))).toNatClampNeg (0 : Int32))) fun q5 =>
                                f_m_work_49 N n x2 x3 x4 (x5 + (-1 : Int32)) (x6 + (1 : Int32)) q5
                              else none)
                            else
                              (if am_in (x5 + (-1 : Int32)) 330 = true then
                                (if (gi M 140 ((x5 + (-1 : Int32))).toNatClampNeg) = (0 : Int32) then
                                  (if am_in ((x5 + (-1 : Int32)) - (1 : Int32)) 330 = true ∧ ((0 : Int32) = 0 ∨ (0 : Int32) = 1) then
                                    Option.bind (some (si M 140 (((x5 + (-1 : Int32)) - (1 : Int32))).toNatClampNeg (0 : Int32))) fun q6 =>
                                    f_m_work_49 N n x2 x3 x4 (x5 + (-1 : Int32)) (x6 + (1 : Int32)) q6
                                  else none)
                                else
                                  (if am_in ((x5 + (-1 : Int32)) - (1 : Int32)) 330 = true ∧ ((1 : Int32) = 0 ∨ (1 : Int32) = 1) then
                                    Option.bind (some (si M 140 (((x5 + (-1 : Int32)) - (1 : Int32))).toNatClampNeg (1 : Int32))) fun q7 =>
                                    f_m_work_49 N n x2 x3 x4 (x5 + (-1 : Int32)) (x6 + (1 : Int32)) q7
                                  else none))
                              else none))
                          else none)
                        else
                          (if am_in ((x5 + (-1 : Int32)) - (1 : Int32)) 330 = true then
                            (if (gi M 140 (((x5 + (-1 : Int32)) - (1 : Int32))).toNatClampNeg) = (0 : Int32) then
                              (if am_in (x5 + (-1 : Int32)) 330 = true then
                                (if (gi M 140 ((x5 + (-1 : Int32))).toNatClampNeg) = (0 : Int32) then
                                  (if am_in ((x5 + (-1 : Int32)) - (1 : Int32)) 330 = true ∧ ((0 : Int32) = 0 ∨ (0 : Int32) = 1) then
                                    Option.bind (some (si M 140 (((x5 + (-1 : Int32)) - (1 : Int32))).toNatClampNeg (0 : Int32))) fun q8 =>
                                    f_m_work_49 N n x2 x3 x4 (x5 + (-1 : Int32)) (x6 + (1 : Int32)) q8
                                  else none)
                                else
                                  (if am_in ((x5 + (-1 : Int32)) - (1 : Int32)) 330 = true ∧ ((1 : Int32) = 0 ∨ (1 : Int32) = 1) then
                                    Option.bind (some (si M 140 (((x5 + (-1 : Int32)) - (1 : Int32))).toNatClampNeg (1 : Int32))) fun q9 =>
                                    f_m_work_49 N n x2 x3 x4 (x5 + (-1 : Int32)) (x6 + (1 : Int32)) q9
                                  else none))
                              else none)
                            else
                              (if am_in ((x5 + (-1 : Int32)) - (1 : Int32)) 330 = true ∧ ((1 : Int32) = 0 ∨ (1 : Int32) = 1) then
                                Option.bind (some (si M 140 (((x5 + (-1 : Int32)) - (1 : Int32))).toNatClampNeg (1 : Int32))) fun q10 =>
                                f_m_work_49 N n x2 x3 x4 (x5 + (-1 : Int32)) (x6 + (1 : Int32)) q10
                              else none))
                          else none)))
                    else
                      (if am_in (x4 + (-2 : Int32)) 330 = true then
                        (if am_in ((x4 + (-2 : Int32)) + (1 : Int32)) 330 = true then
                          (if am_in x5 330 = true ∧ ((f_m_isAsked (gi M 132 ((x3 + ((2 : Int32) * x6))).toNatClampNeg) (gj M 139 ((x4 + (-2 : Int32))).toNatClampNeg) (gj M 139 (((x4 + (-2 : Int32)) + (1 : Int32))).toNatClampNeg) M) = 0 ∨ (f_m_isAsked (gi M 132 ((x3 + ((2 : Int32) * x6))).toNatClampNeg) (gj M 139 ((x4 + (-2 : Int32))).toNatClampNeg) (gj M 139 (((x4 + (-2 : Int32)) + (1 : Int32))).toNatClampNeg) M) = 1) then
                            Option.bind (some (si M 140 (x5).toNatClampNeg (f_m_isAsked (gi M 132 ((x3 + ((2 : Int32) * x6))).toNatClampNeg) (gj M 139 ((x4 + (-2 : Int32))).toNatClampNeg) (gj M 139 (((x4 + (-2 : Int32)) + (1 : Int32))).toNatClampNeg) M))) fun q11 =>
                            f_m_work_49 N n x2 x3 (x4 + (-2 : Int32)) (x5 + (1 : Int32)) (x6 + (1 : Int32)) q11
                          else none)
                        else none)
                      else none))
                  else
                    (if am_in ((x4 + (-1 : Int32)) - (1 : Int32)) 330 = true then
                      (if am_in (x4 + (-1 : Int32)) 330 = true then
                        Option.bind (f_m_two (gi M 132 ((x3 + ((2 : Int32) * x6))).toNatClampNeg) (gj M 139 (((x4 + (-1 : Int32)) - (1 : Int32))).toNatClampNeg) (gj M 139 ((x4 + (-1 : Int32))).toNatClampNeg) M) fun q12 =>
                        (if am_in ((x4 + (-1 : Int32)) - (1 : Int32)) 330 = true then
                          Option.bind (some (sj M 139 (((x4 + (-1 : Int32)) - (1 : Int32))).toNatClampNeg q12)) fun q13 =>
                          f_m_work_49 N n x2 x3 (x4 + (-1 : Int32)) x5 (x6 + (1 : Int32)) q13
                        else none)
                      else none)
                    else none))))
            else
              (if (gi M 132 ((x3 + ((2 : Int32) * x6))).toNatClampNeg) = (0 : Int32) then
                (if am_in x4 330 = true then
                  Option.bind (some (sj M 139 (x4).toNatClampNeg (Int32.toInt64 (gi M 132 (((x3 + ((2 : Int32) * x6)) + (1 : Int32))).toNatClampNeg)))) fun q14 =>
                  f_m_work_49 N n x2 x3 (x4 + (1 : Int32)) x5 (x6 + (1 : Int32)) q14
                else none)
              else
                (if am_in (gi M 132 (((x3 + ((2 : Int32) * x6)) + (1 : Int32))).toNatClampNeg) 12 = true then
                  (if am_in x4 330 = true then
                    Option.bind (some (sj M 139 (x4).toNatClampNeg (Int32.toInt64 (gi M 138 ((gi M 132 (((x3 + ((2 : Int32) * x6)) + (1 : Int32))).toNatClampNeg)).toNatClampNeg)))) fun q15 =>
                    f_m_work_49 N n x2 x3 (x4 + (1 : Int32)) x5 (x6 + (1 : Int32)) q15
                  else none)
                else none)))
          else none)
        else none))
    else none)
def f_m_work (N : Nat) (x1 : Int32) (M : Mem) : Option Mem :=
  (if am_in (((((705 : Int32) * (gi M 130 6)) + (1 : Int32)) + ((4 : Int32) * x1)) + (1 : Int32)) 2820 = true then
    f_m_work_49 N N ((((705 : Int32) * (gi M 130 6)) + (1 : Int32)) + ((4 : Int32) * x1)) (((705 : Int32) * (gi M 130 6)) + (97 : Int32)) (0 : Int32) (0 : Int32) (gi M 132 ((((((705 : Int32) * (gi M 130 6)) + (1 : Int32)) + ((4 : Int32) * x1)) + (1 : Int32))).toNatClampNeg) M
  else none)
def f_m_says (N : Nat) (x1 : Int32) (x2 : Int32) (x3 : Int32) (M : Mem) : Option (Int32 × Mem) :=
  Option.bind (f_m_clauseOf N x1 M) fun q1 =>
  (if (0 : Int32) ≤ q1 then
    Option.bind (f_m_work N q1 M) fun q2 =>
    (if (0 : Int32) ≤ (lg_cmp (gj q2 139 0) (0 : Int64)) then
      (if (lg_cmp (gj q2 139 0) (Int32.toInt64 x3)) ≤ (0 : Int32) then
        some ((Int64.toInt32 (gj q2 139 0)), q2)
      else
        some (x3, q2))
    else
      some ((0 : Int32), q2))
  else
    some (x2, M))
def f_m_wouldFall_180 (N : Nat) (x1 : Int32) (M : Mem) : Option (Int32 × Mem) :=
  Option.bind (f_m_get x1 (1 : Int32) M) fun q21 =>
  (if (3 : Int32) ≤ q21 then
    Option.bind (f_m_says N (1 : Int32) (0 : Int32) (99 : Int32) M) fun q22 =>
    some (((gi M 130 2) + q22.1), q22.2)
  else
    Option.bind (f_m_says N (1 : Int32) (3 : Int32) (99 : Int32) M) fun q23 =>
    some (((gi M 130 2) + q23.1), q23.2))
def f_m_wouldFall_153 (N : Nat) (x1 : Int32) (s1 : Int32) (s2 : Int32) (M : Mem) : Option (Int32 × Mem) :=
  (if am_in s1 12 = true then
    Option.bind (some (si M 138 (s1).toNatClampNeg s2)) fun q18 =>
    Option.bind (f_m_clauseOf N (0 : Int32) q18) fun q19 =>
    (if q19 < (0 : Int32) then
      f_m_wouldFall_180 N x1 q18
    else
      Option.bind (f_m_work N q19 q18) fun q20 =>
      (if (gi q20 140 0) = (0 : Int32) then
        some ((-1 : Int32), q20)
      else
        f_m_wouldFall_180 N x1 q20))
  else none)
def f_m_wouldFall_116 (N : Nat) (x1 : Int32) (s1 : Int32) (s2 : Int32) (M : Mem) : Option (Int32 × Mem) :=
  (if am_in s1 12 = true then
    Option.bind (some (si M 138 (s1).toNatClampNeg s2)) fun q13 =>
    Option.bind (f_m_there N q13) fun q14 =>
    Option.bind (f_m_bits N q14 q13) fun q15 =>
    Option.bind (some (si q13 138 8 q15)) fun q16 =>
    Option.bind (f_m_holdNow N q16) fun q17 =>
    (if (f_m_has q17.1 x1 q17.2) = (0 : Int32) then
      f_m_wouldFall_153 N x1 (9 : Int32) (0 : Int32) q17.2
    else
      f_m_wouldFall_153 N x1 (9 : Int32) (1 : Int32) q17.2)
  else none)
def f_m_wouldFall (N : Nat) (x1 : Int32) (x2 : Int32) (M : Mem) : Option (Int32 × Mem) :=
  Option.bind (some (si M 138 0 (gi M 130 1))) fun q1 =>
  Option.bind (some (si q1 138 1 (gi q1 130 2))) fun q2 =>
  Option.bind (some (si q2 138 2 (gi q2 130 3))) fun q3 =>
  Option.bind (f_m_get x1 (0 : Int32) q3) fun q4 =>
  Option.bind (some (si q3 138 3 q4)) fun q5 =>
  Option.bind (f_m_get x1 (1 : Int32) q5) fun q6 =>
  Option.bind (some (si q5 138 4 q6)) fun q7 =>
  Option.bind (some (si q7 138 5 x2)) fun q8 =>
  Option.bind (f_m_get x1 (4 : Int32) q8) fun q9 =>
  Option.bind (some (si q8 138 6 q9)) fun q10 =>
  Option.bind (f_m_get x1 (6 : Int32) q10) fun q11 =>
  (if q11 = (-1 : Int32) then
    f_m_wouldFall_116 N x1 (7 : Int32) (99 : Int32) q10
  else
    Option.bind (f_m_get x1 (6 : Int32) q10) fun q12 =>
    f_m_wouldFall_116 N x1 (7 : Int32) ((gi q10 130 2) - q12) q10)
def f_m_packed (x0 : Int32) (x1 : Int32) (x2 : Int32) (x3 : Int32) (M : Mem) : Int32 :=
  (((((((x0 * (16 : Int32)) + x1) * (8 : Int32)) + x2) * (256 : Int32)) + x3) + (1 : Int32))
def f_m_log1 (x1 : Int32) (x2 : Int32) (x3 : Int32) (M : Mem) : Option Mem :=
  (if am_in ((68 : Int32) + (gi M 130 8)) 3826 = true then
    Option.bind (some (si M 130 (((68 : Int32) + (gi M 130 8))).toNatClampNeg (f_m_packed (gi M 130 2) x1 x2 x3 M))) fun q1 =>
    Option.bind (some (si q1 130 8 ((gi q1 130 8) + (1 : Int32)))) fun q2 =>
    some q2
  else none)
def f_m_sayNow (N : Nat) (x1 : Int32) (x2 : Int32) (M : Mem) : Option (Int32 × Mem) :=
  Option.bind (f_m_wouldFall N x1 x2 M) fun q1 =>
  Option.bind (f_m_log1 x1 x2 q1.1 q1.2) fun q2 =>
  Option.bind (f_m_get x1 (4 : Int32) q2) fun q3 =>
  Option.bind (f_m_set x1 (4 : Int32) (q3 + (1 : Int32)) q2) fun q4 =>
  Option.bind (f_m_set x1 (6 : Int32) (gi q4 130 2) q4) fun q5 =>
  (if x2 = (2 : Int32) then
    Option.bind (some (si q5 130 3 ((gi q5 130 3) + (1 : Int32)))) fun q6 =>
    Option.bind (f_m_get x1 (5 : Int32) q6) fun q7 =>
    Option.bind (f_m_set x1 (5 : Int32) (q7 + (1 : Int32)) q6) fun q8 =>
    (if x2 = (3 : Int32) then
      Option.bind (f_m_set x1 (3 : Int32) (0 : Int32) q8) fun q9 =>
      some (q1.1, q9)
    else
      some (q1.1, q8))
  else
    (if x2 = (3 : Int32) then
      Option.bind (f_m_set x1 (3 : Int32) (0 : Int32) q5) fun q10 =>
      some (q1.1, q10)
    else
      some (q1.1, q5)))
def f_m_say (N : Nat) (x1 : Int32) (x2 : Int32) (M : Mem) : Option (Int32 × Mem) :=
  (if (f_m_isGuest x1 M) = (0 : Int32) then
    some ((-2 : Int32), M)
  else
    (if (f_m_isIn x2 (0 : Int32) (3 : Int32) M) = (0 : Int32) then
      some ((-2 : Int32), M)
    else
      Option.bind (f_m_canSay x1 M) fun q1 =>
      (if q1 = (0 : Int32) then
        some ((-2 : Int32), M)
      else
        Option.bind (f_m_keep N M) fun q2 =>
        Option.bind (f_m_sayNow N x1 x2 q2) fun q3 =>
        some (q3.1, q3.2))))
def f_w_ask (M : Mem) : Option (Int32 × Mem) :=
  (if (f_e_isFull M) = (0 : Int32) then
    Option.bind (f_t_keepStep M) fun q1 =>
    Option.bind (f_e_enter (8 : Int32) (4 : Int32) (f_e_moment q1) q1) fun q2 =>
    some ((1 : Int32), q2)
  else
    some ((0 : Int32), M))
def f_m_ask (N : Nat) (M : Mem) : Option (Int32 × Mem) :=
  (if (gi M 130 8) = (40 : Int32) then
    some ((0 : Int32), M)
  else
    Option.bind (f_m_keep N M) fun q1 =>
    Option.bind (f_m_log1 (8 : Int32) (4 : Int32) (gi q1 130 2) q1) fun q2 =>
    some ((1 : Int32), q2))
def f_e_setMoment (x1 : Int32) (M : Mem) : Option Mem :=
  Option.bind (some (si M 12 1 x1)) fun q1 =>
  some q1
def f_w_passOne_13 (N : Nat) : Nat → Int32 → Int32 → Mem → Option Mem
  | 0, _, _, _ => none
  | n + 1, x1, x2, M =>
    (if (gi M 7 3) ≤ x2 then
      Option.bind (f_e_setMoment (x1 + (1 : Int32)) M) fun q1 =>
      some q1
    else
      (if am_in x2 8 = true then
        (if (gi M 10 (x2).toNatClampNeg) = x1 then
          Option.bind (f_e_letGo ((1 : Int32) <<< (x2 &&& 31)) M) fun q2 =>
          f_w_passOne_13 N n x1 (x2 + (1 : Int32)) q2
        else
          f_w_passOne_13 N n x1 (x2 + (1 : Int32)) M)
      else none))
def f_w_passOne (N : Nat) (M : Mem) : Option Mem :=
  f_w_passOne_13 N N (f_e_moment M) (0 : Int32) M
def f_w_passAsCan_2 (N : Nat) : Nat → Int32 → Int32 → Mem → Option (Int32 × Mem)
  | 0, _, _, _ => none
  | n + 1, x1, x2, M =>
    (if x1 ≤ x2 then
      some ((1 : Int32), M)
    else
      (if (f_e_moment M) < (99 : Int32) then
        Option.bind (f_t_keepStep M) fun q1 =>
        Option.bind (f_w_passOne N q1) fun q2 =>
        f_w_passAsCan_2 N n x1 (x2 + (1 : Int32)) q2
      else
        some ((0 : Int32), M)))
def f_w_passAsCan (N : Nat) (x1 : Int32) (M : Mem) : Option (Int32 × Mem) :=
  f_w_passAsCan_2 N N x1 (0 : Int32) M
def f_w_pass (N : Nat) (x1 : Int32) (M : Mem) : Option (Int32 × Mem) :=
  (if (f_w_within x1 (1 : Int32) (60 : Int32) M) = (0 : Int32) then
    some ((-1 : Int32), M)
  else
    (if ((f_e_moment M) + x1) ≤ (99 : Int32) then
      Option.bind (f_w_passAsCan N x1 M) fun q1 =>
      some ((f_e_moment q1.2), q1.2)
    else
      some ((-1 : Int32), M)))
def f_m_passNow_2 (N : Nat) : Nat → Int32 → Mem → Option Mem
  | 0, _, _ => none
  | n + 1, x1, M =>
    (if (gi M 130 0) ≤ x1 then
      Option.bind (some (si M 130 2 ((gi M 130 2) + (1 : Int32)))) fun q1 =>
      some q1
    else
      Option.bind (f_m_get x1 (2 : Int32) M) fun q2 =>
      (if q2 = (gi M 130 2) then
        Option.bind (f_m_set x1 (3 : Int32) (0 : Int32) M) fun q3 =>
        f_m_passNow_2 N n (x1 + (1 : Int32)) q3
      else
        f_m_passNow_2 N n (x1 + (1 : Int32)) M))
def f_m_passNow (N : Nat) (M : Mem) : Option Mem :=
  f_m_passNow_2 N N (0 : Int32) M
def f_m_arePassed_2 (N : Nat) : Nat → Int32 → Int32 → Mem → Option (Int32 × Mem)
  | 0, _, _, _ => none
  | n + 1, x1, x2, M =>
    (if x1 ≤ x2 then
      some ((1 : Int32), M)
    else
      (if (gi M 130 2) = (99 : Int32) then
        some ((0 : Int32), M)
      else
        Option.bind (f_m_keep N M) fun q1 =>
        Option.bind (f_m_passNow N q1) fun q2 =>
        f_m_arePassed_2 N n x1 (x2 + (1 : Int32)) q2))
def f_m_arePassed (N : Nat) (x1 : Int32) (M : Mem) : Option (Int32 × Mem) :=
  f_m_arePassed_2 N N x1 (0 : Int32) M
def f_m_pass (N : Nat) (x1 : Int32) (M : Mem) : Option (Int32 × Mem) :=
  (if (f_m_isIn x1 (1 : Int32) (60 : Int32) M) = (0 : Int32) then
    some ((-1 : Int32), M)
  else
    (if (99 : Int32) < ((gi M 130 2) + x1) then
      some ((-1 : Int32), M)
    else
      Option.bind (f_m_arePassed N x1 M) fun q1 =>
      (if q1.1 = (0 : Int32) then
        some ((-1 : Int32), q1.2)
      else
        some ((gi q1.2 130 2), q1.2))))
def f_w_send (x1 : Int32) (M : Mem) : Option (Int32 × Mem) :=
  (if (f_t_isThere x1 M) = (0 : Int32) then
    some ((0 : Int32), M)
  else
    Option.bind (f_t_keepStep M) fun q1 =>
    Option.bind (f_e_letGo ((1 : Int32) <<< (x1 &&& 31)) q1) fun q2 =>
    some ((1 : Int32), q2))
def f_m_send (N : Nat) (x1 : Int32) (M : Mem) : Option (Int32 × Mem) :=
  (if (f_m_isGuest x1 M) = (0 : Int32) then
    some ((0 : Int32), M)
  else
    Option.bind (f_m_isThere x1 M) fun q1 =>
    (if q1 = (0 : Int32) then
      some ((0 : Int32), M)
    else
      Option.bind (f_m_keep N M) fun q2 =>
      Option.bind (f_m_set x1 (3 : Int32) (0 : Int32) q2) fun q3 =>
      some ((1 : Int32), q3)))
def f_e_wouldHold (N : Nat) (M : Mem) : Option Int32 :=
  Option.bind (f_e_standing N (1000000 : Int32) M) fun q1 =>
  some (f_w_holders q1 M)
def f_l_howLikely_108_6_null (x3 : Int32) (M : Mem) : Int32 :=
  (10 : Int32)
def f_e_written (M : Mem) : Int32 :=
  (gi M 12 5)
def f_e_close_81 (M : Mem) : Option Mem :=
  Option.bind (some (si M 12 0 ((gi M 12 0) + (1 : Int32)))) fun q5 =>
  Option.bind (some (si q5 12 1 (0 : Int32))) fun q6 =>
  Option.bind (some (si q6 12 3 (0 : Int32))) fun q7 =>
  Option.bind (some (si q7 12 4 (0 : Int32))) fun q8 =>
  some q8
def f_e_close_34 (x1 : Int32) (x2 : Int32) (M : Mem) : Option Mem :=
  (if (f_w_within (f_e_written M) (0 : Int32) (19 : Int32) M) = (0 : Int32) then
    f_e_close_81 M
  else
    (if am_in ((46 : Int32) + (f_e_written M)) 66 = true then
      Option.bind (some (si M 12 (((46 : Int32) + (f_e_written M))).toNatClampNeg (((f_e_night M) ||| (x1 <<< (10 : Int32))) ||| (x2 <<< (18 : Int32))))) fun q3 =>
      Option.bind (some (si q3 12 5 ((f_e_written M) + (1 : Int32)))) fun q4 =>
      f_e_close_81 q4
    else none))
def f_e_close (x1 : Int32) (x2 : Int32) (M : Mem) : Option Mem :=
  (if (f_e_written M) < (20 : Int32) then
    f_e_close_34 x1 x2 M
  else
    Option.bind (some (sr M 12 (va_cpy (M.1 12) (M.1 12) 47 46 19))) fun q1 =>
    Option.bind (some (si q1 12 5 (19 : Int32))) fun q2 =>
    f_e_close_34 x1 x2 q2)
def f_l_howLikely_108_6_a (N : Nat) (a : Nat) (x3 : Int32) (M : Mem) : Option (Int32 × Mem) :=
  Option.bind (f_p_startOf_a a (14 : Int32) M) fun q1 =>
  (if q1 = (-1 : Int32) then
    some ((10 : Int32), M)
  else
    Option.bind (f_l_nameEvening N M) fun q2 =>
    Option.bind (some (si q2 109 10 (f_e_spoken q2))) fun q3 =>
    Option.bind (some (si q3 109 11 (f_k_bitCount x3 q3))) fun q4 =>
    Option.bind (f_p_startOf_a a (14 : Int32) q4) fun q5 =>
    Option.bind (f_l_run N a q5 q4) fun q6 =>
    some ((f_k_max0 (0 : Int32) (f_k_min0 (100 : Int32) q6.1 q6.2) q6.2), q6.2))
def f_w_endDinner (N : Nat) (M : Mem) : Option (Int32 × Mem) :=
  Option.bind (f_e_wouldHold N M) fun q1 =>
  (match w_scr (gi M 6 5) with
  | none =>
    Option.bind (f_e_close q1 (10 : Int32) M) fun q2 =>
    some (q1, q2)
  | some a =>
    Option.bind (f_l_howLikely_108_6_a N a q1 M) fun q3 =>
    Option.bind (f_e_close q1 q3.1 q3.2) fun q4 =>
    some (q1, q4))
def f_w_dinner (N : Nat) (M : Mem) : Option (Int32 × Mem) :=
  (if (f_e_night M) < (999 : Int32) then
    Option.bind (f_t_keepStep M) fun q1 =>
    Option.bind (f_w_endDinner N q1) fun q2 =>
    some (q2.1, q2.2)
  else
    some ((-1 : Int32), M))
def f_m_wouldHold (N : Nat) (M : Mem) : Option (Int32 × Mem) :=
  Option.bind (f_m_holdBy N (5000 : Int32) M) fun q1 =>
  some (q1.1, q1.2)
def f_m_diesNow (N : Nat) (M : Mem) : Option (Int32 × Mem) :=
  Option.bind (some (si M 138 0 (gi M 130 1))) fun q1 =>
  Option.bind (some (si q1 138 1 (gi q1 130 2))) fun q2 =>
  Option.bind (some (si q2 138 2 (gi q2 130 3))) fun q3 =>
  Option.bind (some (si q3 138 10 (gi q3 130 8))) fun q4 =>
  Option.bind (f_m_wouldHold N q4) fun q5 =>
  Option.bind (f_m_bits N q5.1 q5.2) fun q6 =>
  Option.bind (some (si q5.2 138 11 q6)) fun q7 =>
  Option.bind (f_m_says N (2 : Int32) (10 : Int32) (100 : Int32) q7) fun q8 =>
  some (q8.1, q8.2)
def f_m_endNow_91 (N : Nat) : Nat → Int32 → Int32 → Mem → Option (Int32 × Mem)
  | 0, _, _, _ => none
  | n + 1, x1, x2, M =>
    (if (gi M 130 0) ≤ x2 then
      some (x1, M)
    else
      Option.bind (f_m_sit x2 M) fun q9 =>
      f_m_endNow_91 N n x1 (x2 + (1 : Int32)) q9)
def f_m_endNow (N : Nat) (M : Mem) : Option (Int32 × Mem) :=
  Option.bind (f_m_wouldHold N M) fun q1 =>
  Option.bind (f_m_diesNow N q1.2) fun q2 =>
  (if am_in ((2526 : Int32) + ((gi q1.2 130 9) - (gi q1.2 130 9) / (1300 : Int32) * (1300 : Int32))) 3826 = true then
    Option.bind (some (si q2.2 130 (((2526 : Int32) + ((gi q1.2 130 9) - (gi q1.2 130 9) / (1300 : Int32) * (1300 : Int32)))).toNatClampNeg (((((gi q1.2 130 1) * (256 : Int32)) + q1.1) * (128 : Int32)) + q2.1))) fun q3 =>
    Option.bind (some (si q3 130 9 ((gi q3 130 9) + (1 : Int32)))) fun q4 =>
    Option.bind (some (si q4 130 1 ((gi q4 130 1) + (1 : Int32)))) fun q5 =>
    Option.bind (some (si q5 130 2 (0 : Int32))) fun q6 =>
    Option.bind (some (si q6 130 3 (0 : Int32))) fun q7 =>
    Option.bind (some (si q7 130 8 (0 : Int32))) fun q8 =>
    f_m_endNow_91 N N q1.1 (0 : Int32) q8
  else none)
def f_m_dinner (N : Nat) (M : Mem) : Option (Int32 × Mem) :=
  (if (gi M 130 1) = (999 : Int32) then
    some ((-1 : Int32), M)
  else
    Option.bind (f_m_keep N M) fun q1 =>
    Option.bind (f_m_endNow N q1) fun q2 =>
    some (q2.1, q2.2))
def f_p_clauseAt (a : Nat) (x1 : Int32) (M : Mem) : Option Int32 :=
  (if (f_w_within x1 (0 : Int32) (23 : Int32) M) = (0 : Int32) then
    some (12 : Int32)
  else
    (if am_in x1 24 = true then
      some (gi M (a + 2) (x1).toNatClampNeg)
    else none))
def f_p_firstOf (x0 : Int32) (M : Mem) : Int32 :=
  ((x0 >>> (5 : Int32)) &&& (63 : Int32))
def f_p_headOf (x0 : Int32) (M : Mem) : Int32 :=
  (x0 &&& (31 : Int32))
def f_p_secondOf (x0 : Int32) (M : Mem) : Int32 :=
  (x0 >>> (11 : Int32))
def f_w_perform (N : Nat) (x1 : Int32) (M : Mem) : Option (Int32 × Mem) :=
  (if (f_p_headOf x1 M) = (15 : Int32) then
    Option.bind (f_w_guest (f_p_firstOf x1 M) (f_p_secondOf x1 M) (-1 : Int32) M) fun q1 =>
    (if q1.1 = (-1 : Int32) then
      some ((0 : Int32), q1.2)
    else
      some ((1 : Int32), q1.2))
  else (if (f_p_headOf x1 M) = (16 : Int32) then
    Option.bind (f_w_speak N (f_p_firstOf x1 M) (0 : Int32) (1 : Int32) M) fun q2 =>
    (if q2.1 = (-2 : Int32) then
      some ((0 : Int32), q2.2)
    else
      some ((1 : Int32), q2.2))
  else (if (f_p_headOf x1 M) = (17 : Int32) then
    Option.bind (f_w_speak N (f_p_firstOf x1 M) (1 : Int32) (1 : Int32) M) fun q3 =>
    (if q3.1 = (-2 : Int32) then
      some ((0 : Int32), q3.2)
    else
      some ((1 : Int32), q3.2))
  else (if (f_p_headOf x1 M) = (18 : Int32) then
    Option.bind (f_w_speak N (f_p_firstOf x1 M) (2 : Int32) (1 : Int32) M) fun q4 =>
    (if q4.1 = (-2 : Int32) then
      some ((0 : Int32), q4.2)
    else
      some ((1 : Int32), q4.2))
  else (if (f_p_headOf x1 M) = (19 : Int32) then
    Option.bind (f_w_speak N (f_p_firstOf x1 M) (3 : Int32) (1 : Int32) M) fun q5 =>
    (if q5.1 = (-2 : Int32) then
      some ((0 : Int32), q5.2)
    else
      some ((1 : Int32), q5.2))
  else (if (f_p_headOf x1 M) = (20 : Int32) then
    Option.bind (f_w_ask M) fun q6 =>
    (if q6.1 = 0 ∨ q6.1 = 1 then some (q6.1, q6.2) else none)
  else (if (f_p_headOf x1 M) = (21 : Int32) then
    Option.bind (f_w_passAsCan N (f_p_firstOf x1 M) M) fun q7 =>
    (if q7.1 = 0 ∨ q7.1 = 1 then some (q7.1, q7.2) else none)
  else (if (f_p_headOf x1 M) = (22 : Int32) then
    Option.bind (f_w_send (f_p_firstOf x1 M) M) fun q8 =>
    (if q8.1 = 0 ∨ q8.1 = 1 then some (q8.1, q8.2) else none)
  else (if (f_p_headOf x1 M) = (23 : Int32) then
    Option.bind (f_w_dinner N M) fun q9 =>
    (if q9.1 = (-1 : Int32) then
      some ((0 : Int32), q9.2)
    else
      some ((1 : Int32), q9.2))
  else 
    some ((1 : Int32), M))))))))))
def f_w_played_35 (N : Nat) (a : Nat) : Nat → Int32 → Mem → Option (Int32 × Mem)
  | 0, _, _ => none
  | n + 1, x3, M =>
    (if (gi M a 4) ≤ x3 then
      some ((-1 : Int32), M)
    else
      Option.bind (f_p_clauseAt a x3 M) fun q1 =>
      Option.bind (f_w_perform N q1 M) fun q2 =>
      (if q2.1 = (0 : Int32) then
        some (x3, q2.2)
      else
        f_w_played_35 N a n (x3 + (1 : Int32)) q2.2))
def f_w_played (N : Nat) (x1 : Int32) (M : Mem) : Option (Int32 × Mem) :=
  (if (f_w_within x1 (0 : Int32) ((gi M 6 4) - (1 : Int32)) M) = (0 : Int32) then
    some ((-2 : Int32), M)
  else
    (match w_scr x1 with
    | none =>
      some ((-2 : Int32), M)
    | some a =>
      f_w_played_35 N a N (0 : Int32) M))
def f_m_isPlayed (N : Nat) (x1 : Int32) (M : Mem) : Option (Int32 × Mem) :=
  (if am_in (x1 + (1 : Int32)) 2820 = true then
    (if am_in x1 2820 = true then
      (if (gi M 132 (x1).toNatClampNeg) = (3 : Int32) then
        (if am_in (x1 + (2 : Int32)) 2820 = true then
          Option.bind (f_m_guest (gi M 132 ((x1 + (1 : Int32))).toNatClampNeg) (gi M 132 ((x1 + (2 : Int32))).toNatClampNeg) (-1 : Int32) M) fun q1 =>
          (if q1.1 < (0 : Int32) then
            some ((0 : Int32), q1.2)
          else
            some ((1 : Int32), q1.2))
        else none)
      else (if (gi M 132 (x1).toNatClampNeg) = (4 : Int32) then
        Option.bind (f_m_say N (gi M 132 ((x1 + (1 : Int32))).toNatClampNeg) (0 : Int32) M) fun q2 =>
        (if q2.1 = (-2 : Int32) then
          some ((0 : Int32), q2.2)
        else
          some ((1 : Int32), q2.2))
      else (if (gi M 132 (x1).toNatClampNeg) = (5 : Int32) then
        Option.bind (f_m_say N (gi M 132 ((x1 + (1 : Int32))).toNatClampNeg) (1 : Int32) M) fun q3 =>
        (if q3.1 = (-2 : Int32) then
          some ((0 : Int32), q3.2)
        else
          some ((1 : Int32), q3.2))
      else (if (gi M 132 (x1).toNatClampNeg) = (6 : Int32) then
        Option.bind (f_m_say N (gi M 132 ((x1 + (1 : Int32))).toNatClampNeg) (2 : Int32) M) fun q4 =>
        (if q4.1 = (-2 : Int32) then
          some ((0 : Int32), q4.2)
        else
          some ((1 : Int32), q4.2))
      else (if (gi M 132 (x1).toNatClampNeg) = (7 : Int32) then
        Option.bind (f_m_say N (gi M 132 ((x1 + (1 : Int32))).toNatClampNeg) (3 : Int32) M) fun q5 =>
        (if q5.1 = (-2 : Int32) then
          some ((0 : Int32), q5.2)
        else
          some ((1 : Int32), q5.2))
      else (if (gi M 132 (x1).toNatClampNeg) = (8 : Int32) then
        Option.bind (f_m_ask N M) fun q6 =>
        (if q6.1 = 0 ∨ q6.1 = 1 then some (q6.1, q6.2) else none)
      else (if (gi M 132 (x1).toNatClampNeg) = (9 : Int32) then
        Option.bind (f_m_arePassed N (gi M 132 ((x1 + (1 : Int32))).toNatClampNeg) M) fun q7 =>
        (if q7.1 = 0 ∨ q7.1 = 1 then some (q7.1, q7.2) else none)
      else (if (gi M 132 (x1).toNatClampNeg) = (10 : Int32) then
        Option.bind (f_m_send N (gi M 132 ((x1 + (1 : Int32))).toNatClampNeg) M) fun q8 =>
        (if q8.1 = 0 ∨ q8.1 = 1 then some (q8.1, q8.2) else none)
      else (if (gi M 132 (x1).toNatClampNeg) = (11 : Int32) then
        Option.bind (f_m_dinner N M) fun q9 =>
        (if q9.1 < (0 : Int32) then
          some ((0 : Int32), q9.2)
        else
          some ((1 : Int32), q9.2))
      else 
        some ((1 : Int32), M))))))))))
    else none)
  else none)
def f_m_played_21 (N : Nat) : Nat → Int32 → Int32 → Mem → Option (Int32 × Mem)
  | 0, _, _, _ => none
  | n + 1, x1, x2, M =>
    (if am_in ((705 : Int32) * x1) 2820 = true then
      (if (gi M 132 (((705 : Int32) * x1)).toNatClampNeg) ≤ x2 then
        some ((-1 : Int32), M)
      else
        Option.bind (f_m_isPlayed N ((((705 : Int32) * x1) + (1 : Int32)) + ((4 : Int32) * x2)) M) fun q1 =>
        (if q1.1 = (0 : Int32) then
          some (x2, q1.2)
        else
          f_m_played_21 N n x1 (x2 + (1 : Int32)) q1.2))
    else none)
def f_m_played (N : Nat) (x1 : Int32) (M : Mem) : Option (Int32 × Mem) :=
  (if (f_m_isIn x1 (0 : Int32) ((gi M 130 5) - (1 : Int32)) M) = (0 : Int32) then
    some ((-2 : Int32), M)
  else
    f_m_played_21 N N x1 (0 : Int32) M)
def f_e_setDraw (x1 : Int32) (M : Mem) : Option Mem :=
  Option.bind (some (si M 12 2 x1)) fun q1 =>
  some q1
def f_e_draw (M : Mem) : Int32 :=
  (gi M 12 2)
def f_w_drawOne (N : Nat) (x1 : Int32) (M : Mem) : Option (Int32 × Mem) :=
  (if (3 : Int32) < (x1 - x1 / (7 : Int32) * (7 : Int32)) then
    (if (x1 - x1 / (7 : Int32) * (7 : Int32)) = (4 : Int32) then
      (if (f_e_isFull M) = (0 : Int32) then
        Option.bind (f_e_enter (8 : Int32) (4 : Int32) (f_e_moment M) M) fun q1 =>
        some ((0 : Int32), q1)
      else
        some ((0 : Int32), M))
    else
      (if (x1 - x1 / (7 : Int32) * (7 : Int32)) = (5 : Int32) then
        (if (99 : Int32) ≤ (f_e_moment M) then
          some ((0 : Int32), M)
        else
          Option.bind (f_w_passOne N M) fun q2 =>
          some ((0 : Int32), q2))
      else
        (if (999 : Int32) ≤ (f_e_night M) then
          some ((0 : Int32), M)
        else
          Option.bind (f_w_endDinner N M) fun q3 =>
          some ((1 : Int32), q3.2))))
  else
    (if (gi M 7 3) ≤ (0 : Int32) then
      Option.bind (f_w_speak N (-1 : Int32) (x1 - x1 / (7 : Int32) * (7 : Int32)) (0 : Int32) M) fun q4 =>
      some ((0 : Int32), q4.2)
    else
      (if (gi M 7 3) = 0 then none else
        Option.bind (f_w_speak N (x1 - x1 / (gi M 7 3) * (gi M 7 3)) (x1 - x1 / (7 : Int32) * (7 : Int32)) (0 : Int32) M) fun q5 =>
        some ((0 : Int32), q5.2))))
def f_w_years_90 (N : Nat) (K64 : Int32 → Int32 → Int32 → Mem → Option (Int32 × Mem)) (x2 : Int32) (x3 : Int32) (x4 : Int32) (M : Mem) : Option (Int32 × Mem) :=
  Option.bind (f_e_setDraw ((((f_e_draw M) * (269 : Int32)) + (163 : Int32)) - (((f_e_draw M) * (269 : Int32)) + (163 : Int32)) / (30259 : Int32) * (30259 : Int32)) M) fun q4 =>
  K64 x2 x3 (x4 + (1 : Int32)) q4
def f_w_years_64 (N : Nat) : Nat → Int32 → Int32 → Int32 → Mem → Option (Int32 × Mem)
  | 0, _, _, _, _ => none
  | n + 1, x2, x3, x4, M =>
    (if x2 ≤ x4 then
      some (x3, M)
    else
      Option.bind (f_w_drawOne N (f_e_draw M) M) fun q3 =>
      (if q3.1 = (0 : Int32) then
        f_w_years_90 N (f_w_years_64 N n) x2 x3 x4 q3.2
      else
        f_w_years_90 N (f_w_years_64 N n) x2 (x3 + (1 : Int32)) x4 q3.2))
def f_w_years (N : Nat) (x1 : Int32) (x2 : Int32) (M : Mem) : Option (Int32 × Mem) :=
  (if (f_w_within x1 (0 : Int32) (9999 : Int32) M) = (0 : Int32) then
    some ((-1 : Int32), M)
  else
    (if (f_w_within x2 (1 : Int32) (40 : Int32) M) = (0 : Int32) then
      some ((-1 : Int32), M)
    else
      (if (0 : Int32) < (gi M 7 3) then
        Option.bind (f_t_keepStep M) fun q1 =>
        Option.bind (f_e_setDraw ((x1 * (3 : Int32)) + (61 : Int32)) q1) fun q2 =>
        f_w_years_64 N N x2 (0 : Int32) (0 : Int32) q2
      else
        some ((-1 : Int32), M))))
def f_m_happens (N : Nat) (x1 : Int32) (M : Mem) : Option (Int32 × Mem) :=
  (if (gi M 130 0) = 0 then none else
    (if (x1 - x1 / (7 : Int32) * (7 : Int32)) = (4 : Int32) then
      (if (40 : Int32) ≤ (gi M 130 8) then
        some ((0 : Int32), M)
      else
        Option.bind (f_m_log1 (8 : Int32) (4 : Int32) (gi M 130 2) M) fun q1 =>
        some ((0 : Int32), q1))
    else (if (x1 - x1 / (7 : Int32) * (7 : Int32)) = (5 : Int32) then
      (if (99 : Int32) ≤ (gi M 130 2) then
        some ((0 : Int32), M)
      else
        Option.bind (f_m_passNow N M) fun q2 =>
        some ((0 : Int32), q2))
    else (if (x1 - x1 / (7 : Int32) * (7 : Int32)) = (6 : Int32) then
      (if (gi M 130 1) = (999 : Int32) then
        some ((0 : Int32), M)
      else
        Option.bind (f_m_endNow N M) fun q3 =>
        (if q3.1 < (0 : Int32) then
          some ((0 : Int32), q3.2)
        else
          some ((1 : Int32), q3.2)))
    else 
      Option.bind (f_m_canSay (x1 - x1 / (gi M 130 0) * (gi M 130 0)) M) fun q4 =>
      (if q4 = (0 : Int32) then
        some ((0 : Int32), M)
      else
        Option.bind (f_m_sayNow N (x1 - x1 / (gi M 130 0) * (gi M 130 0)) (x1 - x1 / (7 : Int32) * (7 : Int32)) M) fun q5 =>
        some ((0 : Int32), q5.2))))))
def f_m_years_53 (N : Nat) : Nat → Int32 → Int32 → Int32 → Mem → Option (Int32 × Mem)
  | 0, _, _, _, _ => none
  | n + 1, x2, x3, x4, M =>
    (if x2 ≤ x4 then
      some (x3, M)
    else
      Option.bind (f_m_happens N (gi M 130 4) M) fun q3 =>
      Option.bind (some (si q3.2 130 4 ((((gi q3.2 130 4) * (269 : Int32)) + (163 : Int32)) - (((gi q3.2 130 4) * (269 : Int32)) + (163 : Int32)) / (30259 : Int32) * (30259 : Int32)))) fun q4 =>
      f_m_years_53 N n x2 (x3 + q3.1) (x4 + (1 : Int32)) q4)
def f_m_years (N : Nat) (x1 : Int32) (x2 : Int32) (M : Mem) : Option (Int32 × Mem) :=
  (if (f_m_isIn x1 (0 : Int32) (9999 : Int32) M) = (0 : Int32) then
    some ((-1 : Int32), M)
  else
    (if (f_m_isIn x2 (1 : Int32) (40 : Int32) M) = (0 : Int32) then
      some ((-1 : Int32), M)
    else
      (if (gi M 130 0) = (0 : Int32) then
        some ((-1 : Int32), M)
      else
        Option.bind (f_m_keep N M) fun q1 =>
        Option.bind (some (si q1 130 4 ((x1 * (3 : Int32)) + (61 : Int32)))) fun q2 =>
        f_m_years_53 N N x2 (0 : Int32) (0 : Int32) q2)))
def f_w_undo (M : Mem) : Option (Int32 × Mem) :=
  Option.bind (f_s_takeBack M) fun q1 =>
  (if q1.1 = (0 : Int32) then
    some ((-1 : Int32), q1.2)
  else
    some ((gi q1.2 14 2), q1.2))
def f_m_undo_118 (N : Nat) (K101 : Int32 → Int32 → Mem → Option (Int32 × Mem)) : Nat → Int32 → Int32 → Int32 → Mem → Option (Int32 × Mem)
  | 0, _, _, _, _ => none
  | n + 1, x1, x2, x3, M =>
    (if (4 : Int32) ≤ x3 then
      K101 x1 (x2 + (1 : Int32)) M
    else
      (if am_in x1 3826 = true then
        (if (gi M 130 (x1).toNatClampNeg) ≤ x2 then
          K101 x1 (x2 + (1 : Int32)) M
        else
          (if am_in (((x1 + (7 : Int32)) + ((4 : Int32) * x2)) + x3) 3826 = true then
            Option.bind (f_m_set x2 ((3 : Int32) + x3) (gi M 130 ((((x1 + (7 : Int32)) + ((4 : Int32) * x2)) + x3)).toNatClampNeg) M) fun q6 =>
            f_m_undo_118 N K101 n x1 x2 (x3 + (1 : Int32)) q6
          else none))
      else none))
def f_m_undo_170 (N : Nat) : Nat → Int32 → Int32 → Mem → Option (Int32 × Mem)
  | 0, _, _, _ => none
  | n + 1, x1, x2, M =>
    (if (40 : Int32) ≤ x2 then
      some ((gi M 130 7), M)
    else
      (if am_in ((x1 + (39 : Int32)) + x2) 3826 = true then
        (if am_in ((68 : Int32) + x2) 3826 = true then
          Option.bind (some (si M 130 (((68 : Int32) + x2)).toNatClampNeg (gi M 130 (((x1 + (39 : Int32)) + x2)).toNatClampNeg))) fun q7 =>
          f_m_undo_170 N n x1 (x2 + (1 : Int32)) q7
        else none)
      else none))
def f_m_undo_101 (N : Nat) : Nat → Int32 → Int32 → Mem → Option (Int32 × Mem)
  | 0, _, _, _ => none
  | n + 1, x1, x2, M =>
    (if (gi M 130 0) ≤ x2 then
      f_m_undo_170 N N x1 (0 : Int32) M
    else
      Option.bind (f_m_sit x2 M) fun q5 =>
      f_m_undo_118 N (f_m_undo_101 N n) N x1 x2 (0 : Int32) q5)
def f_m_undo_39 (N : Nat) : Nat → Int32 → Int32 → Mem → Option (Int32 × Mem)
  | 0, _, _, _ => none
  | n + 1, x1, x2, M =>
    (if (4 : Int32) ≤ x2 then
      (if am_in (x1 + (5 : Int32)) 3826 = true then
        Option.bind (some (si M 130 8 (gi M 130 ((x1 + (5 : Int32))).toNatClampNeg))) fun q2 =>
        (if am_in (x1 + (6 : Int32)) 3826 = true then
          Option.bind (some (si q2 130 9 (gi q2 130 ((x1 + (6 : Int32))).toNatClampNeg))) fun q3 =>
          f_m_undo_101 N N x1 (0 : Int32) q3
        else none)
      else none)
    else
      (if am_in ((x1 + (1 : Int32)) + x2) 3826 = true then
        (if am_in ((1 : Int32) + x2) 3826 = true then
          Option.bind (some (si M 130 (((1 : Int32) + x2)).toNatClampNeg (gi M 130 (((x1 + (1 : Int32)) + x2)).toNatClampNeg))) fun q4 =>
          f_m_undo_39 N n x1 (x2 + (1 : Int32)) q4
        else none)
      else none))
def f_m_undo (N : Nat) (M : Mem) : Option (Int32 × Mem) :=
  (if (gi M 130 7) = (0 : Int32) then
    some ((-1 : Int32), M)
  else
    Option.bind (some (si M 130 7 ((gi M 130 7) - (1 : Int32)))) fun q1 =>
    f_m_undo_39 N N ((126 : Int32) + ((80 : Int32) * (gi q1 130 7))) (0 : Int32) q1)
def f_e_countOf_5 (N : Nat) : Nat → Int32 → Int32 → Int32 → Int32 → Mem → Option Int32
  | 0, _, _, _, _, _ => none
  | n + 1, x1, x2, x3, x4, M =>
    (if (f_e_spoken M) ≤ x4 then
      some x3
    else
      Option.bind (f_e_entry x4 M) fun q1 =>
      (if (f_e_whoOf q1 M) = x1 then
        (if (f_e_kindOf q1 M) = x2 then
          f_e_countOf_5 N n x1 x2 (x3 + (1 : Int32)) (x4 + (1 : Int32)) M
        else
          f_e_countOf_5 N n x1 x2 x3 (x4 + (1 : Int32)) M)
      else
        f_e_countOf_5 N n x1 x2 x3 (x4 + (1 : Int32)) M))
def f_e_countOf (N : Nat) (x1 : Int32) (x2 : Int32) (M : Mem) : Option Int32 :=
  f_e_countOf_5 N N x1 x2 (0 : Int32) (0 : Int32) M
def f_w_of (N : Nat) (x1 : Int32) (x2 : Int32) (M : Mem) : Option (Int32 × Mem) :=
  (if (f_g_knows x1 M) = (0 : Int32) then
    some ((-2 : Int32), M)
  else
    (if x2 = (0 : Int32) then
      (if am_in x1 8 = true then
        some ((gi M 8 (x1).toNatClampNeg), M)
      else none)
    else (if x2 = (1 : Int32) then
      (if am_in x1 8 = true then
        some ((gi M 9 (x1).toNatClampNeg), M)
      else none)
    else (if x2 = (2 : Int32) then
      (if am_in x1 8 = true then
        some ((gi M 10 (x1).toNatClampNeg), M)
      else none)
    else (if x2 = (3 : Int32) then
      (if (f_t_isThere x1 M) = (0 : Int32) then
        some ((0 : Int32), M)
      else
        some ((1 : Int32), M))
    else (if x2 = (4 : Int32) then
      Option.bind (f_e_wordsOf N x1 M) fun q1 =>
      some (q1, M)
    else (if x2 = (5 : Int32) then
      Option.bind (f_e_countOf N x1 (2 : Int32) M) fun q2 =>
      some (q2, M)
    else (if x2 = (6 : Int32) then
      Option.bind (f_e_lastOf N x1 M) fun q3 =>
      some (q3, M)
    else (if x2 = (7 : Int32) then
      (match w_scr (gi M 6 5) with
      | none =>
        Option.bind (f_l_whenFalls_108_6_null x1 (0 : Int32) M) fun q4 =>
        some (q4, M)
      | some a =>
        Option.bind (f_l_whenFalls_108_6_a N a x1 (0 : Int32) M) fun q5 =>
        some (q5.1, q5.2))
    else 
      some ((-2 : Int32), M))))))))))
def f_m_of (N : Nat) (x1 : Int32) (x2 : Int32) (M : Mem) : Option (Int32 × Mem) :=
  (if (f_m_isGuest x1 M) = (0 : Int32) then
    some ((-2 : Int32), M)
  else
    (if (f_m_isIn x2 (0 : Int32) (7 : Int32) M) = (0 : Int32) then
      some ((-2 : Int32), M)
    else
      (if x2 = (7 : Int32) then
        Option.bind (f_m_wouldFall N x1 (0 : Int32) M) fun q1 =>
        some (q1.1, q1.2)
      else
        Option.bind (f_m_get x1 x2 M) fun q2 =>
        some (q2, M))))
def f_w_holds (N : Nat) (x1 : Int32) (M : Mem) : Option Int32 :=
  (if x1 = (0 : Int32) then
    Option.bind (f_e_holdNow N M) fun q1 =>
    some q1
  else
    Option.bind (f_e_wouldHold N M) fun q2 =>
    some q2)
def f_m_holds (N : Nat) (x1 : Int32) (M : Mem) : Option (Int32 × Mem) :=
  (if x1 = (0 : Int32) then
    Option.bind (f_m_holdNow N M) fun q1 =>
    some (q1.1, q1.2)
  else
    Option.bind (f_m_wouldHold N M) fun q2 =>
    some (q2.1, q2.2))
def f_w_log (x1 : Int32) (x2 : Int32) (M : Mem) : Option Int32 :=
  (if x1 = (-1 : Int32) then
    some (f_e_spoken M)
  else
    (if (f_w_within x1 (0 : Int32) ((f_e_spoken M) - (1 : Int32)) M) = (0 : Int32) then
      some (-2 : Int32)
    else
      Option.bind (f_e_entry x1 M) fun q1 =>
      (if x2 = (0 : Int32) then
        some (f_e_momentOf q1 M)
      else (if x2 = (1 : Int32) then
        some (f_e_whoOf q1 M)
      else (if x2 = (2 : Int32) then
        some (f_e_kindOf q1 M)
      else (if x2 = (3 : Int32) then
        some (f_e_fallsOf q1 M)
      else 
        some (-2 : Int32)))))))
def f_m_momentOf (x1 : Int32) (M : Mem) : Option Int32 :=
  (if am_in ((68 : Int32) + x1) 3826 = true then
    some ((gi M 130 (((68 : Int32) + x1)).toNatClampNeg) / (32768 : Int32))
  else none)
def f_m_kindOf (x1 : Int32) (M : Mem) : Option Int32 :=
  (if am_in ((68 : Int32) + x1) 3826 = true then
    some (((gi M 130 (((68 : Int32) + x1)).toNatClampNeg) / (256 : Int32)) - ((gi M 130 (((68 : Int32) + x1)).toNatClampNeg) / (256 : Int32)) / (8 : Int32) * (8 : Int32))
  else none)
def f_m_log0 (x1 : Int32) (x2 : Int32) (M : Mem) : Option Int32 :=
  (if x1 = (-1 : Int32) then
    some (gi M 130 8)
  else
    (if (f_m_isIn x1 (0 : Int32) ((gi M 130 8) - (1 : Int32)) M) = (0 : Int32) then
      some (-2 : Int32)
    else
      (if x2 = (0 : Int32) then
        Option.bind (f_m_momentOf x1 M) fun q1 =>
        some q1
      else (if x2 = (1 : Int32) then
        Option.bind (f_m_whoOf x1 M) fun q2 =>
        some q2
      else (if x2 = (2 : Int32) then
        Option.bind (f_m_kindOf x1 M) fun q3 =>
        some q3
      else (if x2 = (3 : Int32) then
        Option.bind (f_m_fallsOf x1 M) fun q4 =>
        some q4
      else 
        some (-2 : Int32)))))))
def f_e_page (x1 : Int32) (M : Mem) : Option Int32 :=
  (if x1 < (0 : Int32) then
    some (0 : Int32)
  else
    (if (20 : Int32) ≤ x1 then
      some (0 : Int32)
    else
      (if am_in ((46 : Int32) + x1) 66 = true then
        some (gi M 12 (((46 : Int32) + x1)).toNatClampNeg)
      else none)))
def f_e_nightOf (x0 : Int32) (M : Mem) : Int32 :=
  (x0 &&& (1023 : Int32))
def f_e_heirsOf (x0 : Int32) (M : Mem) : Int32 :=
  ((x0 >>> (10 : Int32)) &&& (255 : Int32))
def f_e_diesOf (x0 : Int32) (M : Mem) : Int32 :=
  (x0 >>> (18 : Int32))
def f_w_book (x1 : Int32) (x2 : Int32) (M : Mem) : Option Int32 :=
  (if x1 = (-1 : Int32) then
    some (f_e_written M)
  else
    (if (f_w_within x1 (0 : Int32) ((f_e_written M) - (1 : Int32)) M) = (0 : Int32) then
      some (-2 : Int32)
    else
      Option.bind (f_e_page x1 M) fun q1 =>
      (if x2 = (0 : Int32) then
        some (f_e_nightOf q1 M)
      else (if x2 = (1 : Int32) then
        some (f_e_heirsOf q1 M)
      else (if x2 = (2 : Int32) then
        some (f_e_diesOf q1 M)
      else 
        some (-2 : Int32))))))
def f_m_shown (M : Mem) : Int32 :=
  (if (20 : Int32) ≤ (gi M 130 9) then
    (20 : Int32)
  else
    (gi M 130 9))
def f_m_entry (x1 : Int32) (M : Mem) : Option Int32 :=
  (if am_in ((2526 : Int32) + ((((gi M 130 9) - (f_m_shown M)) + x1) - (((gi M 130 9) - (f_m_shown M)) + x1) / (1300 : Int32) * (1300 : Int32))) 3826 = true then
    some (gi M 130 (((2526 : Int32) + ((((gi M 130 9) - (f_m_shown M)) + x1) - (((gi M 130 9) - (f_m_shown M)) + x1) / (1300 : Int32) * (1300 : Int32)))).toNatClampNeg)
  else none)
def f_m_heldIn (x1 : Int32) (M : Mem) : Option Int32 :=
  Option.bind (f_m_entry x1 M) fun q1 =>
  some ((q1 / (128 : Int32)) - (q1 / (128 : Int32)) / (256 : Int32) * (256 : Int32))
def f_m_diedIn (x1 : Int32) (M : Mem) : Option Int32 :=
  Option.bind (f_m_entry x1 M) fun q1 =>
  some (q1 - q1 / (128 : Int32) * (128 : Int32))
def f_m_book (x1 : Int32) (x2 : Int32) (M : Mem) : Option Int32 :=
  (if x1 = (-1 : Int32) then
    some (f_m_shown M)
  else
    (if (f_m_isIn x1 (0 : Int32) ((f_m_shown M) - (1 : Int32)) M) = (0 : Int32) then
      some (-2 : Int32)
    else
      (if x2 = (0 : Int32) then
        Option.bind (f_m_entry x1 M) fun q1 =>
        some (q1 / (32768 : Int32))
      else
        (if x2 = (1 : Int32) then
          Option.bind (f_m_heldIn x1 M) fun q2 =>
          some q2
        else
          (if x2 = (2 : Int32) then
            Option.bind (f_m_diedIn x1 M) fun q3 =>
            some q3
          else
            some (-2 : Int32))))))
def f_w_isOfBook (x1 : Int32) (M : Mem) : Int32 :=
  (if (f_w_within x1 (1 : Int32) (6 : Int32) M) = (0 : Int32) then
    (0 : Int32)
  else
    (if (f_e_written M) < x1 then
      (0 : Int32)
    else
      (1 : Int32)))
def f_h_dyingIn_16 (N : Nat) : Nat → Int32 → Int32 → Int64 → Int64 → Int32 → Int32 → Mem → Option Int64
  | 0, _, _, _, _, _, _, _ => none
  | n + 1, x1, x2, x3, x5, x7, x8, M =>
    (if x1 ≤ x8 then
      some x3
    else
      Option.bind (f_e_page (x7 + x8) M) fun q1 =>
      (if ((x2 >>> (x8 &&& 31)) &&& (1 : Int32)) = (1 : Int32) then
        f_h_dyingIn_16 N n x1 x2 ((x3 * (100 : Int64)) + (x5 * (Int32.toInt64 (f_e_diesOf q1 M)))) (x5 * (Int32.toInt64 ((100 : Int32) - (f_e_diesOf q1 M)))) x7 (x8 + (1 : Int32)) M
      else
        f_h_dyingIn_16 N n x1 x2 ((x3 * (100 : Int64)) + (0 : Int64)) (x5 * (Int32.toInt64 ((100 : Int32) - (f_e_diesOf q1 M)))) x7 (x8 + (1 : Int32)) M))
def f_h_dyingIn (N : Nat) (x1 : Int32) (x2 : Int32) (M : Mem) : Option Int64 :=
  f_h_dyingIn_16 N N x1 x2 (0 : Int64) (1 : Int64) ((f_e_written M) - x1) (0 : Int32) M
def f_h_heirsOfLatest (x1 : Int32) (x2 : Int32) (M : Mem) : Option Int32 :=
  Option.bind (f_e_page (((f_e_written M) - x1) + x2) M) fun q1 =>
  some (f_e_heirsOf q1 M)
def f_w_partOfWhole (x0 : Int32) (x1 : Int32) (M : Mem) : Option Int32 :=
  (if (f_k_bitCount x0 M) ≤ (0 : Int32) then
    some (0 : Int32)
  else
    (if (x0 &&& (f_w_bitOf x1 M)) = (0 : Int32) then
      some (0 : Int32)
    else
      (if (f_k_bitCount x0 M) = 0 then none else
        some ((840 : Int32) / (f_k_bitCount x0 M)))))
def f_h_partOf_5 (N : Nat) : Nat → Int32 → Int32 → Int64 → Int32 → Mem → Option Int64
  | 0, _, _, _, _, _ => none
  | n + 1, x1, x2, x3, x5, M =>
    (if x1 ≤ x5 then
      some x3
    else
      Option.bind (f_h_dyingIn N x1 ((1 : Int32) <<< (x5 &&& 31)) M) fun q1 =>
      Option.bind (f_h_heirsOfLatest x1 x5 M) fun q2 =>
      Option.bind (f_w_partOfWhole q2 x2 M) fun q3 =>
      f_h_partOf_5 N n x1 x2 (x3 + (q1 * (Int32.toInt64 q3))) (x5 + (1 : Int32)) M)
def f_h_partOf (N : Nat) (x1 : Int32) (x2 : Int32) (M : Mem) : Option Int64 :=
  f_h_partOf_5 N N x1 x2 (0 : Int64) (0 : Int32) M
def f_w_hundreds_4 (N : Nat) : Nat → Int32 → Int64 → Int32 → Mem → Option Int64
  | 0, _, _, _, _ => none
  | n + 1, x0, x1, x3, M =>
    (if x0 ≤ x3 then
      some x1
    else
      f_w_hundreds_4 N n x0 (x1 * (100 : Int64)) (x3 + (1 : Int32)) M)
def f_w_hundreds (N : Nat) (x0 : Int32) (M : Mem) : Option Int64 :=
  f_w_hundreds_4 N N x0 (1 : Int64) (0 : Int32) M
def f_k_abs (x0 : Int64) (M : Mem) : Int64 :=
  (if (0 : Int32) ≤ (lg_cmp x0 (0 : Int64)) then
    x0
  else
    (-x0))
def f_w_lowest_48 (N : Nat) (x0 : Int64) (x2 : Int64) (x4 : Int32) (x5 : Int64) (M : Mem) : Option Int64 :=
  (if x4 = (0 : Int32) then
    (if (lg_cmp x5 (0 : Int64)) = (0 : Int32) then
      some x0
    else
      (if x5 = 0 then none else
        some (x0 / x5)))
  else
    (if (lg_cmp x5 (0 : Int64)) = (0 : Int32) then
      some x2
    else
      (if x5 = 0 then none else
        some (x2 / x5))))
def f_w_lowest_12 (N : Nat) : Nat → Int64 → Int64 → Int32 → Int64 → Int64 → Int32 → Mem → Option Int64
  | 0, _, _, _, _, _, _, _ => none
  | n + 1, x0, x2, x4, x5, x7, x9, M =>
    (if (200 : Int32) ≤ x9 then
      f_w_lowest_48 N x0 x2 x4 x5 M
    else
      (if (lg_cmp x7 (0 : Int64)) = (0 : Int32) then
        f_w_lowest_48 N x0 x2 x4 x5 M
      else
        (if x7 = 0 then none else
          f_w_lowest_12 N n x0 x2 x4 x7 (x5 - x5 / x7 * x7) (x9 + (1 : Int32)) M)))
def f_w_lowest (N : Nat) (x0 : Int64) (x2 : Int64) (x4 : Int32) (M : Mem) : Option Int64 :=
  f_w_lowest_12 N N x0 x2 x4 (f_k_abs x0 M) x2 (0 : Int32) M
def f_w_inherits (N : Nat) (x1 : Int32) (x2 : Int32) (x3 : Int32) (M : Mem) : Option Int64 :=
  (if (f_g_knows x1 M) = (0 : Int32) then
    some (-1 : Int64)
  else
    (if (f_w_isOfBook x2 M) = (0 : Int32) then
      some (-1 : Int64)
    else
      Option.bind (f_h_partOf N x2 x1 M) fun q1 =>
      Option.bind (f_w_hundreds N x2 M) fun q2 =>
      Option.bind (f_w_lowest N q1 ((840 : Int64) * q2) x3 M) fun q3 =>
      some q3))
def f_m_areNights (x1 : Int32) (M : Mem) : Int32 :=
  (if (f_m_isIn x1 (1 : Int32) (6 : Int32) M) = (0 : Int32) then
    (0 : Int32)
  else
    (if (f_m_shown M) < x1 then
      (0 : Int32)
    else
      (1 : Int32)))
def f_m_power_4 (N : Nat) : Nat → Int32 → Int64 → Int32 → Mem → Option Int64
  | 0, _, _, _, _ => none
  | n + 1, x0, x1, x3, M =>
    (if x0 ≤ x3 then
      some x1
    else
      f_m_power_4 N n x0 (x1 * (100 : Int64)) (x3 + (1 : Int32)) M)
def f_m_power (N : Nat) (x0 : Int32) (M : Mem) : Option Int64 :=
  f_m_power_4 N N x0 (1 : Int64) (0 : Int32) M
def f_m_common_17 (N : Nat) : Nat → Int64 → Int64 → Mem → Option Int64
  | 0, _, _, _ => none
  | n + 1, x4, x6, M =>
    (if (lg_cmp x6 (0 : Int64)) = (0 : Int32) then
      some x4
    else
      (if x6 = 0 then none else
        f_m_common_17 N n x6 (x4 - x4 / x6 * x6) M))
def f_m_common (N : Nat) (x0 : Int64) (x2 : Int64) (M : Mem) : Option Int64 :=
  (if (0 : Int32) ≤ (lg_cmp x0 (0 : Int64)) then
    f_m_common_17 N N x0 x2 M
  else
    f_m_common_17 N N (-x0) x2 M)
def f_m_part (N : Nat) (x0 : Int64) (x2 : Int64) (x4 : Int32) (M : Mem) : Option Int64 :=
  (if x4 = (0 : Int32) then
    Option.bind (f_m_common N x0 x2 M) fun q1 =>
    (if q1 = 0 then none else
      some (x0 / q1))
  else
    Option.bind (f_m_common N x0 x2 M) fun q2 =>
    (if q2 = 0 then none else
      some (x2 / q2)))
def f_m_diesIn_5 (N : Nat) : Nat → Int32 → Int32 → Int64 → Int32 → Mem → Option Int64
  | 0, _, _, _, _, _ => none
  | n + 1, x1, x2, x3, x5, M =>
    (if x1 ≤ x5 then
      some x3
    else
      Option.bind (f_m_diedIn (((f_m_shown M) - x1) + x5) M) fun q1 =>
      (if x2 ≤ x5 then
        (if x5 = x2 then
          f_m_diesIn_5 N n x1 x2 (x3 * (Int32.toInt64 q1)) (x5 + (1 : Int32)) M
        else
          f_m_diesIn_5 N n x1 x2 (x3 * (100 : Int64)) (x5 + (1 : Int32)) M)
      else
        f_m_diesIn_5 N n x1 x2 (x3 * (Int32.toInt64 ((100 : Int32) - q1))) (x5 + (1 : Int32)) M))
def f_m_diesIn (N : Nat) (x1 : Int32) (x2 : Int32) (M : Mem) : Option Int64 :=
  f_m_diesIn_5 N N x1 x2 (1 : Int64) (0 : Int32) M
def f_m_inherits_26 (N : Nat) : Nat → Int32 → Int32 → Int32 → Int64 → Int32 → Mem → Option Int64
  | 0, _, _, _, _, _, _ => none
  | n + 1, x1, x2, x3, x4, x6, M =>
    (if x2 ≤ x6 then
      Option.bind (f_m_power N x2 M) fun q1 =>
      Option.bind (f_m_part N x4 ((840 : Int64) * q1) x3 M) fun q2 =>
      some q2
    else
      Option.bind (f_m_heldIn (((f_m_shown M) - x2) + x6) M) fun q3 =>
      (if (f_m_has q3 x1 M) = (0 : Int32) then
        f_m_inherits_26 N n x1 x2 x3 x4 (x6 + (1 : Int32)) M
      else
        Option.bind (f_m_diesIn N x2 x6 M) fun q4 =>
        Option.bind (f_m_bits N q3 M) fun q5 =>
        (if (Int32.toInt64 q5) = 0 then none else
          f_m_inherits_26 N n x1 x2 x3 (x4 + (q4 * ((840 : Int64) / (Int32.toInt64 q5)))) (x6 + (1 : Int32)) M)))
def f_m_inherits (N : Nat) (x1 : Int32) (x2 : Int32) (x3 : Int32) (M : Mem) : Option Int64 :=
  (if (f_m_isGuest x1 M) = (0 : Int32) then
    some (-1 : Int64)
  else
    (if (f_m_areNights x2 M) = (0 : Int32) then
      some (-1 : Int64)
    else
      f_m_inherits_26 N N x1 x2 x3 (0 : Int64) (0 : Int32) M))
def f_h_nightsHeld_4 (N : Nat) : Nat → Int32 → Int32 → Int32 → Mem → Option Int32
  | 0, _, _, _, _ => none
  | n + 1, x1, x2, x3, M =>
    (if x1 ≤ x3 then
      some x2
    else
      Option.bind (f_h_heirsOfLatest x1 x3 M) fun q1 =>
      (if q1 = (0 : Int32) then
        f_h_nightsHeld_4 N n x1 (x2 ||| (0 : Int32)) (x3 + (1 : Int32)) M
      else
        f_h_nightsHeld_4 N n x1 (x2 ||| ((1 : Int32) <<< (x3 &&& 31))) (x3 + (1 : Int32)) M))
def f_h_nightsHeld (N : Nat) (x1 : Int32) (M : Mem) : Option Int32 :=
  f_h_nightsHeld_4 N N x1 (0 : Int32) (0 : Int32) M
def f_w_open (N : Nat) (x1 : Int32) (x2 : Int32) (M : Mem) : Option Int64 :=
  (if (f_w_isOfBook x1 M) = (0 : Int32) then
    some (-1 : Int64)
  else
    Option.bind (f_h_nightsHeld N x1 M) fun q1 =>
    Option.bind (f_w_hundreds N x1 M) fun q2 =>
    Option.bind (f_h_dyingIn N x1 q1 M) fun q3 =>
    Option.bind (f_w_hundreds N x1 M) fun q4 =>
    Option.bind (f_w_lowest N (q2 - q3) q4 x2 M) fun q5 =>
    some q5)
def f_m_open_20 (N : Nat) : Nat → Int32 → Int32 → Int64 → Int32 → Mem → Option Int64
  | 0, _, _, _, _, _ => none
  | n + 1, x1, x2, x3, x5, M =>
    (if x1 ≤ x5 then
      Option.bind (f_m_power N x1 M) fun q2 =>
      Option.bind (f_m_part N x3 q2 x2 M) fun q3 =>
      some q3
    else
      Option.bind (f_m_heldIn (((f_m_shown M) - x1) + x5) M) fun q4 =>
      (if q4 = (0 : Int32) then
        f_m_open_20 N n x1 x2 x3 (x5 + (1 : Int32)) M
      else
        Option.bind (f_m_diesIn N x1 x5 M) fun q5 =>
        f_m_open_20 N n x1 x2 (x3 - q5) (x5 + (1 : Int32)) M))
def f_m_open (N : Nat) (x1 : Int32) (x2 : Int32) (M : Mem) : Option Int64 :=
  (if (f_m_areNights x1 M) = (0 : Int32) then
    some (-1 : Int64)
  else
    Option.bind (f_m_power N x1 M) fun q1 =>
    f_m_open_20 N N x1 x2 q1 (0 : Int32) M)
def f_g_knowsAll (x1 : Int32) (M : Mem) : Int32 :=
  (f_w_within x1 (0 : Int32) (f_g_everybody M) M)
def f_h_nightsHeldBy_5 (N : Nat) : Nat → Int32 → Int32 → Int32 → Int32 → Mem → Option Int32
  | 0, _, _, _, _, _ => none
  | n + 1, x1, x2, x3, x4, M =>
    (if x1 ≤ x4 then
      some x3
    else
      Option.bind (f_h_heirsOfLatest x1 x4 M) fun q1 =>
      (if q1 = x2 then
        f_h_nightsHeldBy_5 N n x1 x2 (x3 ||| ((1 : Int32) <<< (x4 &&& 31))) (x4 + (1 : Int32)) M
      else
        f_h_nightsHeldBy_5 N n x1 x2 (x3 ||| (0 : Int32)) (x4 + (1 : Int32)) M))
def f_h_nightsHeldBy (N : Nat) (x1 : Int32) (x2 : Int32) (M : Mem) : Option Int32 :=
  f_h_nightsHeldBy_5 N N x1 x2 (0 : Int32) (0 : Int32) M
def f_w_thatNight (N : Nat) (x1 : Int32) (x2 : Int32) (x3 : Int32) (x4 : Int32) (M : Mem) : Option Int64 :=
  (if x1 = (0 : Int32) then
    some (-1 : Int64)
  else
    (if (f_g_knowsAll x1 M) = (0 : Int32) then
      some (-1 : Int64)
    else
      (if (f_w_isOfBook x2 M) = (0 : Int32) then
        some (-1 : Int64)
      else
        (if (f_w_within x3 (0 : Int32) (x2 - (1 : Int32)) M) = (0 : Int32) then
          some (-1 : Int64)
        else
          Option.bind (f_h_nightsHeldBy N x2 x1 M) fun q1 =>
          Option.bind (f_h_dyingIn N x2 q1 M) fun q2 =>
          (if (0 : Int32) < (lg_cmp q2 (0 : Int64)) then
            Option.bind (f_h_dyingIn N x2 (q1 &&& ((1 : Int32) <<< (x3 &&& 31))) M) fun q3 =>
            Option.bind (f_w_lowest N q3 q2 x4 M) fun q4 =>
            some q4
          else
            some (-1 : Int64))))))
def f_m_isSet (x1 : Int32) (M : Mem) : Int32 :=
  (f_m_isIn x1 (0 : Int32) (((1 : Int32) <<< ((gi M 130 0) &&& 31)) - (1 : Int32)) M)
def f_m_thatNight_44 (N : Nat) : Nat → Int32 → Int32 → Int32 → Int32 → Int64 → Int64 → Int32 → Mem → Option Int64
  | 0, _, _, _, _, _, _, _, _ => none
  | n + 1, x1, x2, x3, x4, x5, x7, x9, M =>
    (if x2 ≤ x9 then
      (if (lg_cmp x5 (0 : Int64)) = (0 : Int32) then
        some (-1 : Int64)
      else
        Option.bind (f_m_part N x7 x5 x4 M) fun q1 =>
        some q1)
    else
      Option.bind (f_m_heldIn (((f_m_shown M) - x2) + x9) M) fun q2 =>
      (if q2 = x1 then
        Option.bind (f_m_diesIn N x2 x9 M) fun q3 =>
        (if x9 = x3 then
          Option.bind (f_m_diesIn N x2 x9 M) fun q4 =>
          f_m_thatNight_44 N n x1 x2 x3 x4 (x5 + q3) (x7 + q4) (x9 + (1 : Int32)) M
        else
          f_m_thatNight_44 N n x1 x2 x3 x4 (x5 + q3) (x7 + (0 : Int64)) (x9 + (1 : Int32)) M)
      else
        f_m_thatNight_44 N n x1 x2 x3 x4 x5 x7 (x9 + (1 : Int32)) M))
def f_m_thatNight (N : Nat) (x1 : Int32) (x2 : Int32) (x3 : Int32) (x4 : Int32) (M : Mem) : Option Int64 :=
  (if (f_m_isSet x1 M) = (0 : Int32) then
    some (-1 : Int64)
  else
    (if x1 = (0 : Int32) then
      some (-1 : Int64)
    else
      (if (f_m_areNights x2 M) = (0 : Int32) then
        some (-1 : Int64)
      else
        (if (f_m_isIn x3 (0 : Int32) (x2 - (1 : Int32)) M) = (0 : Int32) then
          some (-1 : Int64)
        else
          f_m_thatNight_44 N N x1 x2 x3 x4 (0 : Int64) (0 : Int64) (0 : Int32) M))))
def f_h_nightsOf_5 (N : Nat) : Nat → Int32 → Int32 → Int32 → Int32 → Mem → Option Int32
  | 0, _, _, _, _, _ => none
  | n + 1, x1, x2, x3, x4, M =>
    (if (f_e_written M) ≤ x4 then
      some x3
    else
      Option.bind (f_e_page x4 M) fun q1 =>
      (if x2 = (0 : Int32) then
        (if ((f_e_heirsOf q1 M) &&& x1) = (0 : Int32) then
          f_h_nightsOf_5 N n x1 x2 x3 (x4 + (1 : Int32)) M
        else
          f_h_nightsOf_5 N n x1 x2 (x3 + (1 : Int32)) (x4 + (1 : Int32)) M)
      else
        (if (f_e_heirsOf q1 M) = x1 then
          f_h_nightsOf_5 N n x1 x2 (x3 + (1 : Int32)) (x4 + (1 : Int32)) M
        else
          f_h_nightsOf_5 N n x1 x2 x3 (x4 + (1 : Int32)) M)))
def f_h_nightsOf (N : Nat) (x1 : Int32) (x2 : Int32) (M : Mem) : Option Int32 :=
  f_h_nightsOf_5 N N x1 x2 (0 : Int32) (0 : Int32) M
def f_w_tally (N : Nat) (x1 : Int32) (x2 : Int32) (M : Mem) : Option Int32 :=
  (if (f_g_knows x1 M) = (0 : Int32) then
    some (-1 : Int32)
  else
    Option.bind (f_h_nightsOf N ((1 : Int32) <<< (x1 &&& 31)) x2 M) fun q1 =>
    some q1)
def f_m_tally_15 (N : Nat) : Nat → Int32 → Int32 → Int32 → Int32 → Mem → Option Int32
  | 0, _, _, _, _, _ => none
  | n + 1, x1, x2, x3, x4, M =>
    (if (f_m_shown M) ≤ x4 then
      some x3
    else
      (if x2 = (0 : Int32) then
        Option.bind (f_m_heldIn x4 M) fun q1 =>
        f_m_tally_15 N n x1 x2 (x3 + ((q1 >>> (x1 &&& 31)) &&& (1 : Int32))) (x4 + (1 : Int32)) M
      else
        Option.bind (f_m_heldIn x4 M) fun q2 =>
        (if q2 = ((1 : Int32) <<< (x1 &&& 31)) then
          f_m_tally_15 N n x1 x2 (x3 + (1 : Int32)) (x4 + (1 : Int32)) M
        else
          f_m_tally_15 N n x1 x2 (x3 + (0 : Int32)) (x4 + (1 : Int32)) M)))
def f_m_tally (N : Nat) (x1 : Int32) (x2 : Int32) (M : Mem) : Option Int32 :=
  (if (f_m_isGuest x1 M) = (0 : Int32) then
    some (-1 : Int32)
  else
    f_m_tally_15 N N x1 x2 (0 : Int32) (0 : Int32) M)
def f_h_runFrom_14 (N : Nat) : Nat → Int32 → Int32 → Int32 → Mem → Option Int32
  | 0, _, _, _, _ => none
  | n + 1, x2, x3, x4, M =>
    (if (f_e_written M) ≤ x4 then
      some x3
    else
      Option.bind (f_e_page x4 M) fun q2 =>
      (if (f_e_heirsOf q2 M) = x2 then
        f_h_runFrom_14 N n x2 (x3 + (1 : Int32)) (x4 + (1 : Int32)) M
      else
        some x3))
def f_h_runFrom (N : Nat) (x1 : Int32) (M : Mem) : Option Int32 :=
  Option.bind (f_e_page x1 M) fun q1 =>
  f_h_runFrom_14 N N (f_e_heirsOf q1 M) (0 : Int32) x1 M
def f_h_longestRun_4 (N : Nat) : Nat → Int32 → Int32 → Mem → Option Int32
  | 0, _, _, _ => none
  | n + 1, x1, x2, M =>
    (if (f_e_written M) ≤ x2 then
      some x1
    else
      Option.bind (f_h_runFrom N x2 M) fun q1 =>
      f_h_longestRun_4 N n (f_k_max0 x1 q1 M) (x2 + (1 : Int32)) M)
def f_h_longestRun (N : Nat) (M : Mem) : Option Int32 :=
  f_h_longestRun_4 N N (0 : Int32) (0 : Int32) M
def f_h_longestSet_6 (N : Nat) : Nat → Int32 → Int32 → Int32 → Mem → Option Int32
  | 0, _, _, _, _ => none
  | n + 1, x1, x2, x3, M =>
    (if (f_e_written M) ≤ x3 then
      some x2
    else
      Option.bind (f_h_runFrom N x3 M) fun q1 =>
      (if q1 ≤ x1 then
        f_h_longestSet_6 N n x1 x2 (x3 + (1 : Int32)) M
      else
        Option.bind (f_e_page x3 M) fun q2 =>
        f_h_longestSet_6 N n q1 (f_e_heirsOf q2 M) (x3 + (1 : Int32)) M))
def f_h_longestSet (N : Nat) (M : Mem) : Option Int32 :=
  f_h_longestSet_6 N N (0 : Int32) (-1 : Int32) (0 : Int32) M
def f_w_longest (N : Nat) (x1 : Int32) (M : Mem) : Option Int32 :=
  (if x1 = (0 : Int32) then
    Option.bind (f_h_longestRun N M) fun q1 =>
    some q1
  else
    Option.bind (f_h_longestSet N M) fun q2 =>
    some q2)
def f_m_longest_49 (N : Nat) (K10 : Int32 → Int32 → Int32 → Int32 → Int32 → Mem → Option Int32) (x1 : Int32) (x2 : Int32) (x3 : Int32) (x5 : Int32) (s0 : Int32) (M : Mem) : Option Int32 :=
  (if x2 < s0 then
    Option.bind (f_m_heldIn x5 M) fun q3 =>
    K10 x1 s0 q3 s0 (x5 + (1 : Int32)) M
  else
    K10 x1 x2 x3 s0 (x5 + (1 : Int32)) M)
def f_m_longest_10 (N : Nat) : Nat → Int32 → Int32 → Int32 → Int32 → Int32 → Mem → Option Int32
  | 0, _, _, _, _, _, _ => none
  | n + 1, x1, x2, x3, x4, x5, M =>
    (if (f_m_shown M) ≤ x5 then
      (if x1 = (0 : Int32) then
        some x2
      else
        some x3)
    else
      (if x5 ≤ (0 : Int32) then
        f_m_longest_49 N (f_m_longest_10 N n) x1 x2 x3 x5 (1 : Int32) M
      else
        Option.bind (f_m_heldIn x5 M) fun q1 =>
        Option.bind (f_m_heldIn (x5 - (1 : Int32)) M) fun q2 =>
        (if q1 = q2 then
          f_m_longest_49 N (f_m_longest_10 N n) x1 x2 x3 x5 (x4 + (1 : Int32)) M
        else
          f_m_longest_49 N (f_m_longest_10 N n) x1 x2 x3 x5 (1 : Int32) M)))
def f_m_longest (N : Nat) (x1 : Int32) (M : Mem) : Option Int32 :=
  f_m_longest_10 N N x1 (0 : Int32) (-1 : Int32) (0 : Int32) (0 : Int32) M
def f_w_which (N : Nat) (x1 : Int32) (M : Mem) : Option Int32 :=
  (if (f_g_knowsAll x1 M) = (0 : Int32) then
    some (-1 : Int32)
  else
    Option.bind (f_h_nightsHeldBy N (f_e_written M) x1 M) fun q1 =>
    some q1)
def f_m_which_14 (N : Nat) : Nat → Int32 → Int32 → Int32 → Mem → Option Int32
  | 0, _, _, _, _ => none
  | n + 1, x1, x2, x3, M =>
    (if (f_m_shown M) ≤ x3 then
      some x2
    else
      Option.bind (f_m_heldIn x3 M) fun q1 =>
      (if q1 = x1 then
        f_m_which_14 N n x1 (x2 ||| ((1 : Int32) <<< (x3 &&& 31))) (x3 + (1 : Int32)) M
      else
        f_m_which_14 N n x1 (x2 ||| (0 : Int32)) (x3 + (1 : Int32)) M))
def f_m_which (N : Nat) (x1 : Int32) (M : Mem) : Option Int32 :=
  (if (f_m_isSet x1 M) = (0 : Int32) then
    some (-1 : Int32)
  else
    f_m_which_14 N N x1 (0 : Int32) (0 : Int32) M)
def f_w_whispered_47 (N : Nat) : Nat → Int32 → Int32 → Int32 → Int32 → Int32 → Mem → Option Int32
  | 0, _, _, _, _, _, _ => none
  | n + 1, x1, x2, x3, x4, x5, M =>
    (if (gi M 7 3) ≤ x5 then
      some x4
    else
      (if (f_w_holders (f_w_joined x3 x1 ((1 : Int32) <<< (x5 &&& 31)) M) M) = x2 then
        f_w_whispered_47 N n x1 x2 x3 (x4 ||| ((1 : Int32) <<< (x5 &&& 31))) (x5 + (1 : Int32)) M
      else
        f_w_whispered_47 N n x1 x2 x3 x4 (x5 + (1 : Int32)) M))
def f_w_whispered (N : Nat) (x1 : Int32) (x2 : Int32) (M : Mem) : Option Int32 :=
  (if (f_w_within x1 (0 : Int32) (999 : Int32) M) = (0 : Int32) then
    some (-1 : Int32)
  else
    (if (f_g_knowsAll x2 M) = (0 : Int32) then
      some (-1 : Int32)
    else
      Option.bind (f_e_standing N (1000000 : Int32) M) fun q1 =>
      f_w_whispered_47 N N x1 x2 q1 (0 : Int32) (0 : Int32) M))
def f_m_holdWith (N : Nat) (x1 : Int32) (x2 : Int32) (M : Mem) : Option (Int32 × Mem) :=
  Option.bind (f_m_wouldHold N M) fun q1 =>
  (if (0 : Int32) ≤ q1.1 then
    Option.bind (f_m_consider x1 x2 q1.2) fun q2 =>
    some ((gi q2 129 29), q2)
  else
    some ((0 : Int32), q1.2))
def f_m_whispered_26 (N : Nat) : Nat → Int32 → Int32 → Int32 → Int32 → Mem → Option (Int32 × Mem)
  | 0, _, _, _, _, _ => none
  | n + 1, x1, x2, x3, x4, M =>
    (if (gi M 130 0) ≤ x4 then
      some (x3, M)
    else
      Option.bind (f_m_holdWith N x4 x1 M) fun q1 =>
      (if q1.1 = x2 then
        f_m_whispered_26 N n x1 x2 (x3 ||| ((1 : Int32) <<< (x4 &&& 31))) (x4 + (1 : Int32)) q1.2
      else
        f_m_whispered_26 N n x1 x2 (x3 ||| (0 : Int32)) (x4 + (1 : Int32)) q1.2))
def f_m_whispered (N : Nat) (x1 : Int32) (x2 : Int32) (M : Mem) : Option (Int32 × Mem) :=
  (if (f_m_isIn x1 (0 : Int32) (999 : Int32) M) = (0 : Int32) then
    some ((-1 : Int32), M)
  else
    (if (f_m_isSet x2 M) = (0 : Int32) then
      some ((-1 : Int32), M)
    else
      f_m_whispered_26 N N x1 x2 (0 : Int32) (0 : Int32) M))
def f_w_twoWhispered_80 (N : Nat) (K59 : Int32 → Int32 → Int32 → Int32 → Int32 → Int32 → Int32 → Mem → Option Int32) : Nat → Int32 → Int32 → Int32 → Int32 → Int32 → Int32 → Int32 → Int32 → Mem → Option Int32
  | 0, _, _, _, _, _, _, _, _, _ => none
  | n + 1, x1, x2, x3, x4, x5, x6, x7, x8, M =>
    (if (gi M 7 3) ≤ x8 then
      K59 x1 x2 x3 x4 x5 x6 (x7 + (1 : Int32)) M
    else
      (if (f_w_holders (f_w_joined (f_w_joined x5 x1 ((1 : Int32) <<< (x7 &&& 31)) M) x2 ((1 : Int32) <<< (x8 &&& 31)) M) M) = x3 then
        (if x6 = x4 then
          some (((8 : Int32) * x7) + x8)
        else
          f_w_twoWhispered_80 N K59 n x1 x2 x3 x4 x5 (x6 + (1 : Int32)) x7 (x8 + (1 : Int32)) M)
      else
        (if (f_w_holders (f_w_joined (f_w_joined x5 x1 ((1 : Int32) <<< (x8 &&& 31)) M) x2 ((1 : Int32) <<< (x7 &&& 31)) M) M) = x3 then
          (if x6 = x4 then
            some (((8 : Int32) * x7) + x8)
          else
            f_w_twoWhispered_80 N K59 n x1 x2 x3 x4 x5 (x6 + (1 : Int32)) x7 (x8 + (1 : Int32)) M)
        else
          f_w_twoWhispered_80 N K59 n x1 x2 x3 x4 x5 x6 x7 (x8 + (1 : Int32)) M)))
def f_w_twoWhispered_59 (N : Nat) : Nat → Int32 → Int32 → Int32 → Int32 → Int32 → Int32 → Int32 → Mem → Option Int32
  | 0, _, _, _, _, _, _, _, _ => none
  | n + 1, x1, x2, x3, x4, x5, x6, x7, M =>
    (if (gi M 7 3) ≤ x7 then
      (if x4 = (-1 : Int32) then
        some x6
      else
        some (-1 : Int32))
    else
      f_w_twoWhispered_80 N (f_w_twoWhispered_59 N n) N x1 x2 x3 x4 x5 x6 x7 (x7 + (1 : Int32)) M)
def f_w_twoWhispered (N : Nat) (x1 : Int32) (x2 : Int32) (x3 : Int32) (x4 : Int32) (M : Mem) : Option Int32 :=
  (if (f_w_within x1 (0 : Int32) (999 : Int32) M) = (0 : Int32) then
    some (-1 : Int32)
  else
    (if (f_w_within x2 (0 : Int32) (999 : Int32) M) = (0 : Int32) then
      some (-1 : Int32)
    else
      (if (f_g_knowsAll x3 M) = (0 : Int32) then
        some (-1 : Int32)
      else
        Option.bind (f_e_standing N (1000000 : Int32) M) fun q1 =>
        f_w_twoWhispered_59 N N x1 x2 x3 x4 q1 (0 : Int32) (0 : Int32) M)))
def f_m_holdWithTwo (N : Nat) (x1 : Int32) (x2 : Int32) (x3 : Int32) (x4 : Int32) (M : Mem) : Option (Int32 × Mem) :=
  Option.bind (f_m_wouldHold N M) fun q1 =>
  (if (0 : Int32) ≤ q1.1 then
    Option.bind (f_m_consider x1 x2 q1.2) fun q2 =>
    Option.bind (f_m_consider x3 x4 q2) fun q3 =>
    some ((gi q3 129 29), q3)
  else
    some ((0 : Int32), q1.2))
def f_m_twoWhispered_61 (N : Nat) (K44 : Int32 → Int32 → Int32 → Int32 → Int32 → Int32 → Mem → Option (Int32 × Mem)) : Nat → Int32 → Int32 → Int32 → Int32 → Int32 → Int32 → Int32 → Mem → Option (Int32 × Mem)
  | 0, _, _, _, _, _, _, _, _ => none
  | n + 1, x1, x2, x3, x4, x5, x6, x7, M =>
    (if (gi M 130 0) ≤ x7 then
      K44 x1 x2 x3 x4 x5 (x6 + (1 : Int32)) M
    else
      Option.bind (f_m_holdWithTwo N x6 x1 x7 x2 M) fun q1 =>
      (if q1.1 = x3 then
        (if x5 = x4 then
          some ((((8 : Int32) * x6) + x7), q1.2)
        else
          f_m_twoWhispered_61 N K44 n x1 x2 x3 x4 (x5 + (1 : Int32)) x6 (x7 + (1 : Int32)) q1.2)
      else
        Option.bind (f_m_holdWithTwo N x7 x1 x6 x2 q1.2) fun q2 =>
        (if q2.1 = x3 then
          (if x5 = x4 then
            some ((((8 : Int32) * x6) + x7), q2.2)
          else
            f_m_twoWhispered_61 N K44 n x1 x2 x3 x4 (x5 + (1 : Int32)) x6 (x7 + (1 : Int32)) q2.2)
        else
          f_m_twoWhispered_61 N K44 n x1 x2 x3 x4 x5 x6 (x7 + (1 : Int32)) q2.2)))
def f_m_twoWhispered_44 (N : Nat) : Nat → Int32 → Int32 → Int32 → Int32 → Int32 → Int32 → Mem → Option (Int32 × Mem)
  | 0, _, _, _, _, _, _, _ => none
  | n + 1, x1, x2, x3, x4, x5, x6, M =>
    (if (gi M 130 0) ≤ x6 then
      (if x4 = (-1 : Int32) then
        some (x5, M)
      else
        some ((-1 : Int32), M))
    else
      f_m_twoWhispered_61 N (f_m_twoWhispered_44 N n) N x1 x2 x3 x4 x5 x6 (x6 + (1 : Int32)) M)
def f_m_twoWhispered (N : Nat) (x1 : Int32) (x2 : Int32) (x3 : Int32) (x4 : Int32) (M : Mem) : Option (Int32 × Mem) :=
  (if (f_m_isIn x1 (0 : Int32) (999 : Int32) M) = (0 : Int32) then
    some ((-1 : Int32), M)
  else
    (if (f_m_isIn x2 (0 : Int32) (999 : Int32) M) = (0 : Int32) then
      some ((-1 : Int32), M)
    else
      (if (f_m_isSet x3 M) = (0 : Int32) then
        some ((-1 : Int32), M)
      else
        (if (-1 : Int32) ≤ x4 then
          f_m_twoWhispered_44 N N x1 x2 x3 x4 (0 : Int32) (0 : Int32) M
        else
          some ((-1 : Int32), M)))))
def f_w_ifAsked (N : Nat) (x1 : Int32) (M : Mem) : Option Int32 :=
  (if (f_w_within x1 (0 : Int32) (999 : Int32) M) = (0 : Int32) then
    some (-1 : Int32)
  else
    Option.bind (f_e_standing N (1000000 : Int32) M) fun q1 =>
    some (f_w_holders (f_w_joined q1 x1 (0 : Int32) M) M))
def f_m_ifAsked (N : Nat) (x1 : Int32) (M : Mem) : Option (Int32 × Mem) :=
  (if (f_m_isIn x1 (0 : Int32) (999 : Int32) M) = (0 : Int32) then
    some ((-1 : Int32), M)
  else
    Option.bind (f_m_holdWith N (8 : Int32) x1 M) fun q1 =>
    some (q1.1, q1.2))
def f_w_latestMoment (x0 : Int32) (M : Mem) : Int32 :=
  ((x0 >>> (8 : Int32)) - (1 : Int32))
def f_w_silence (N : Nat) (M : Mem) : Option Int32 :=
  Option.bind (f_e_standing N (f_e_moment M) M) fun q1 =>
  some ((f_e_moment M) - (f_w_latestMoment q1 M))
def f_m_silence (N : Nat) (M : Mem) : Option (Int32 × Mem) :=
  Option.bind (f_m_holdNow N M) fun q1 =>
  (if (0 : Int32) ≤ q1.1 then
    some (((gi q1.2 130 2) - (gi q1.2 129 28)), q1.2)
  else
    some ((0 : Int32), q1.2))
def f_w_aheadByRank_62 (N : Nat) (K16 : Int32 → Int32 → Int32 → Mem → Option Int32) (x1 : Int32) (x3 : Int32) (x4 : Int32) (s0 : Int32) (M : Mem) : Option Int32 :=
  (if s0 = (0 : Int32) then
    K16 x1 x3 (x4 + (1 : Int32)) M
  else
    (if (f_t_isThere x4 M) = (0 : Int32) then
      K16 x1 x3 (x4 + (1 : Int32)) M
    else
      K16 x1 (x3 + (1 : Int32)) (x4 + (1 : Int32)) M))
def f_w_aheadByRank_16 (N : Nat) : Nat → Int32 → Int32 → Int32 → Mem → Option Int32
  | 0, _, _, _, _ => none
  | n + 1, x1, x3, x4, M =>
    (if (gi M 7 3) ≤ x4 then
      some x3
    else
      (if am_in x4 8 = true then
        (if am_in x1 8 = true then
          (if (gi M 8 (x1).toNatClampNeg) < (gi M 8 (x4).toNatClampNeg) then
            f_w_aheadByRank_62 N (f_w_aheadByRank_16 N n) x1 x3 x4 (1 : Int32) M
          else
            (if am_in x4 8 = true then
              (if am_in x1 8 = true then
                (if (gi M 8 (x4).toNatClampNeg) = (gi M 8 (x1).toNatClampNeg) then
                  (if x1 ≤ x4 then
                    f_w_aheadByRank_62 N (f_w_aheadByRank_16 N n) x1 x3 x4 (0 : Int32) M
                  else
                    f_w_aheadByRank_62 N (f_w_aheadByRank_16 N n) x1 x3 x4 (1 : Int32) M)
                else
                  f_w_aheadByRank_62 N (f_w_aheadByRank_16 N n) x1 x3 x4 (0 : Int32) M)
              else none)
            else none))
        else none)
      else none))
def f_w_aheadByRank (N : Nat) (x1 : Int32) (M : Mem) : Option Int32 :=
  f_w_aheadByRank_16 N N x1 (0 : Int32) (0 : Int32) M
def f_w_byRank_2 (N : Nat) : Nat → Int32 → Int32 → Mem → Option Int32
  | 0, _, _, _ => none
  | n + 1, x1, x2, M =>
    (if (gi M 7 3) ≤ x2 then
      some (-1 : Int32)
    else
      (if (f_t_isThere x2 M) = (0 : Int32) then
        f_w_byRank_2 N n x1 (x2 + (1 : Int32)) M
      else
        Option.bind (f_w_aheadByRank N x2 M) fun q1 =>
        (if q1 = x1 then
          some x2
        else
          f_w_byRank_2 N n x1 (x2 + (1 : Int32)) M)))
def f_w_byRank (N : Nat) (x1 : Int32) (M : Mem) : Option Int32 :=
  f_w_byRank_2 N N x1 (0 : Int32) M
def f_m_byRank_12 (N : Nat) (K5 : Int32 → Int32 → Int32 → Mem → Option Int32) : Nat → Int32 → Int32 → Int32 → Int32 → Mem → Option Int32
  | 0, _, _, _, _, _ => none
  | n + 1, x1, x2, x3, x4, M =>
    (if (gi M 130 0) ≤ x4 then
      K5 x1 x2 (x3 + (-1 : Int32)) M
    else
      Option.bind (f_m_isThere x4 M) fun q1 =>
      (if q1 = (0 : Int32) then
        f_m_byRank_12 N K5 n x1 x2 x3 (x4 + (1 : Int32)) M
      else
        Option.bind (f_m_get x4 (0 : Int32) M) fun q2 =>
        (if q2 = x3 then
          (if x2 = x1 then
            some x4
          else
            f_m_byRank_12 N K5 n x1 (x2 + (1 : Int32)) x3 (x4 + (1 : Int32)) M)
        else
          f_m_byRank_12 N K5 n x1 x2 x3 (x4 + (1 : Int32)) M)))
def f_m_byRank_5 (N : Nat) : Nat → Int32 → Int32 → Int32 → Mem → Option Int32
  | 0, _, _, _, _ => none
  | n + 1, x1, x2, x3, M =>
    (if x3 < (0 : Int32) then
      some (-1 : Int32)
    else
      f_m_byRank_12 N (f_m_byRank_5 N n) N x1 x2 x3 (0 : Int32) M)
def f_m_byRank (N : Nat) (x1 : Int32) (M : Mem) : Option Int32 :=
  f_m_byRank_5 N N x1 (0 : Int32) (9 : Int32) M
def f_w_told (N : Nat) (x1 : Int32) (x2 : Int32) (M : Mem) : Option Int32 :=
  (if (f_g_knows x1 M) = (0 : Int32) then
    some (-1 : Int32)
  else
    (if (f_w_within x2 (0 : Int32) (3 : Int32) M) = (0 : Int32) then
      some (-1 : Int32)
    else
      Option.bind (f_e_countOf N x1 x2 M) fun q1 =>
      some q1))
def f_m_told_24 (N : Nat) : Nat → Int32 → Int32 → Int32 → Int32 → Mem → Option Int32
  | 0, _, _, _, _, _ => none
  | n + 1, x1, x2, x3, x4, M =>
    (if (gi M 130 8) ≤ x4 then
      some x3
    else
      Option.bind (f_m_whoOf x4 M) fun q1 =>
      (if q1 = x1 then
        Option.bind (f_m_kindOf x4 M) fun q2 =>
        (if q2 = x2 then
          f_m_told_24 N n x1 x2 (x3 + (1 : Int32)) (x4 + (1 : Int32)) M
        else
          f_m_told_24 N n x1 x2 (x3 + (0 : Int32)) (x4 + (1 : Int32)) M)
      else
        f_m_told_24 N n x1 x2 (x3 + (0 : Int32)) (x4 + (1 : Int32)) M))
def f_m_told (N : Nat) (x1 : Int32) (x2 : Int32) (M : Mem) : Option Int32 :=
  (if (f_m_isGuest x1 M) = (0 : Int32) then
    some (-1 : Int32)
  else
    (if (f_m_isIn x2 (0 : Int32) (3 : Int32) M) = (0 : Int32) then
      some (-1 : Int32)
    else
      f_m_told_24 N N x1 x2 (0 : Int32) (0 : Int32) M))
def f_w_meanDies_22 (N : Nat) : Nat → Int32 → Int32 → Int32 → Int32 → Mem → Option Int32
  | 0, _, _, _, _, _ => none
  | n + 1, x1, x2, x3, x4, M =>
    (if x2 ≤ x4 then
      Option.bind (f_w_lowest N (Int32.toInt64 x3) (Int32.toInt64 x2) x1 M) fun q1 =>
      some (Int64.toInt32 q1)
    else
      Option.bind (f_e_page x4 M) fun q2 =>
      f_w_meanDies_22 N n x1 x2 (x3 + (f_e_diesOf q2 M)) (x4 + (1 : Int32)) M)
def f_w_meanDies (N : Nat) (x1 : Int32) (M : Mem) : Option Int32 :=
  (if (0 : Int32) < (f_e_written M) then
    f_w_meanDies_22 N N x1 (f_e_written M) (0 : Int32) (0 : Int32) M
  else
    some (-1 : Int32))
def f_m_meanDies_13 (N : Nat) : Nat → Int32 → Int32 → Int32 → Mem → Option Int32
  | 0, _, _, _, _ => none
  | n + 1, x1, x2, x3, M =>
    (if (f_m_shown M) ≤ x3 then
      Option.bind (f_m_part N (Int32.toInt64 x2) (Int32.toInt64 (f_m_shown M)) x1 M) fun q1 =>
      some (Int64.toInt32 q1)
    else
      Option.bind (f_m_diedIn x3 M) fun q2 =>
      f_m_meanDies_13 N n x1 (x2 + q2) (x3 + (1 : Int32)) M)
def f_m_meanDies (N : Nat) (x1 : Int32) (M : Mem) : Option Int32 :=
  (if (f_m_shown M) = (0 : Int32) then
    some (-1 : Int32)
  else
    f_m_meanDies_13 N N x1 (0 : Int32) (0 : Int32) M)
def f_k_fill0_13_5 (N : Nat) : Nat → Int32 → Int32 → Int32 → Mem → Option Mem
  | 0, _, _, _, _ => none
  | n + 1, x1, x2, x3, M =>
    (if x3 ≤ x2 then
      some M
    else
      (if am_in x2 100 = true then
        Option.bind (some (si M 13 (x2).toNatClampNeg x1)) fun q1 =>
        f_k_fill0_13_5 N n x1 (x2 + (1 : Int32)) x3 q1
      else none))
def f_k_fill0_13 (N : Nat) (x1 : Int32) (M : Mem) : Option Mem :=
  f_k_fill0_13_5 N N x1 (0 : Int32) (100 : Int32) M
def f_e_momentsHeld_118 (N : Nat) (K80 : Int32 → Int32 → Int32 → Int32 → Mem → Option (Int32 × Mem)) (x1 : Int32) (x3 : Int32) (x4 : Int32) (s0 : Int32) (M : Mem) : Option (Int32 × Mem) :=
  (if (s0 &&& x1) = (0 : Int32) then
    K80 x1 s0 (x3 + (0 : Int32)) (x4 + (1 : Int32)) M
  else
    K80 x1 s0 (x3 + (1 : Int32)) (x4 + (1 : Int32)) M)
def f_e_momentsHeld_80 (N : Nat) : Nat → Int32 → Int32 → Int32 → Int32 → Mem → Option (Int32 × Mem)
  | 0, _, _, _, _, _ => none
  | n + 1, x1, x2, x3, x4, M =>
    (if (f_e_moment M) ≤ x4 then
      some (x3, M)
    else
      (if (99 : Int32) < x4 then
        some (x3, M)
      else
        (if am_in x4 100 = true then
          (if (gi M 13 (x4).toNatClampNeg) = (-1 : Int32) then
            f_e_momentsHeld_118 N (f_e_momentsHeld_80 N n) x1 x3 x4 x2 M
          else
            (if am_in x4 100 = true then
              f_e_momentsHeld_118 N (f_e_momentsHeld_80 N n) x1 x3 x4 (gi M 13 (x4).toNatClampNeg) M
            else none))
        else none)))
def f_e_momentsHeld_10 (N : Nat) : Nat → Int32 → Int32 → Mem → Option (Int32 × Mem)
  | 0, _, _, _ => none
  | n + 1, x1, x2, M =>
    (if (f_e_spoken M) ≤ x2 then
      f_e_momentsHeld_80 N N x1 (0 : Int32) (0 : Int32) (0 : Int32) M
    else
      Option.bind (f_e_entry x2 M) fun q2 =>
      (if (f_w_within (f_e_fallsOf q2 M) (0 : Int32) (99 : Int32) M) = (0 : Int32) then
        f_e_momentsHeld_10 N n x1 (x2 + (1 : Int32)) M
      else
        (if am_in (f_e_fallsOf q2 M) 100 = true then
          (if am_in (f_e_fallsOf q2 M) 100 = true then
            Option.bind (some (si M 13 ((f_e_fallsOf q2 M)).toNatClampNeg ((f_k_max0 (gi M 13 ((f_e_fallsOf q2 M)).toNatClampNeg) (0 : Int32) M) ||| (f_w_bitOf (f_e_whoOf q2 M) M)))) fun q3 =>
            f_e_momentsHeld_10 N n x1 (x2 + (1 : Int32)) q3
          else none)
        else none)))
def f_e_momentsHeld (N : Nat) (x1 : Int32) (M : Mem) : Option (Int32 × Mem) :=
  Option.bind (f_k_fill0_13 N (-1 : Int32) M) fun q1 =>
  f_e_momentsHeld_10 N N x1 (0 : Int32) q1
def f_w_held (N : Nat) (x1 : Int32) (M : Mem) : Option (Int32 × Mem) :=
  (if (f_g_knows x1 M) = (0 : Int32) then
    some ((-1 : Int32), M)
  else
    Option.bind (f_e_momentsHeld N ((1 : Int32) <<< (x1 &&& 31)) M) fun q1 =>
    some (q1.1, q1.2))
def f_m_held_14 (N : Nat) : Nat → Int32 → Int32 → Int32 → Mem → Option (Int32 × Mem)
  | 0, _, _, _, _ => none
  | n + 1, x1, x2, x3, M =>
    (if (gi M 130 2) ≤ x3 then
      some (x2, M)
    else
      Option.bind (f_m_holdBy N x3 M) fun q1 =>
      f_m_held_14 N n x1 (x2 + ((q1.1 >>> (x1 &&& 31)) &&& (1 : Int32))) (x3 + (1 : Int32)) q1.2)
def f_m_held (N : Nat) (x1 : Int32) (M : Mem) : Option (Int32 × Mem) :=
  (if (f_m_isGuest x1 M) = (0 : Int32) then
    some ((-1 : Int32), M)
  else
    f_m_held_14 N N x1 (0 : Int32) (0 : Int32) M)
def f_w_stays_34 (N : Nat) : Nat → Int32 → Int32 → Int32 → Int32 → Mem → Option Int32
  | 0, _, _, _, _, _ => none
  | n + 1, x1, x2, x3, x4, M =>
    (if (gi M 7 3) ≤ x4 then
      some x3
    else
      (if am_in x4 8 = true then
        (if (f_w_within (gi M 10 (x4).toNatClampNeg) x2 (x1 - (1 : Int32)) M) = (0 : Int32) then
          f_w_stays_34 N n x1 x2 x3 (x4 + (1 : Int32)) M
        else
          f_w_stays_34 N n x1 x2 (x3 &&& (((1 : Int32) <<< (x4 &&& 31)) ^^^ (-1 : Int32))) (x4 + (1 : Int32)) M)
      else none))
def f_w_stays (N : Nat) (x1 : Int32) (M : Mem) : Option Int32 :=
  (if (f_w_within x1 (f_e_moment M) (99 : Int32) M) = (0 : Int32) then
    some (-1 : Int32)
  else
    f_w_stays_34 N N x1 (f_e_moment M) (f_t_there M) (0 : Int32) M)
def f_m_stays_21 (N : Nat) : Nat → Int32 → Int32 → Int32 → Mem → Option Int32
  | 0, _, _, _, _ => none
  | n + 1, x1, x2, x3, M =>
    (if (gi M 130 0) ≤ x3 then
      some x2
    else
      Option.bind (f_m_isThere x3 M) fun q1 =>
      (if q1 = (0 : Int32) then
        f_m_stays_21 N n x1 (x2 ||| (0 : Int32)) (x3 + (1 : Int32)) M
      else
        Option.bind (f_m_get x3 (2 : Int32) M) fun q2 =>
        (if (f_m_isIn q2 (gi M 130 2) (x1 - (1 : Int32)) M) = (0 : Int32) then
          f_m_stays_21 N n x1 (x2 ||| ((1 : Int32) <<< (x3 &&& 31))) (x3 + (1 : Int32)) M
        else
          f_m_stays_21 N n x1 (x2 ||| (0 : Int32)) (x3 + (1 : Int32)) M)))
def f_m_stays (N : Nat) (x1 : Int32) (M : Mem) : Option Int32 :=
  (if (f_m_isIn x1 (gi M 130 2) (99 : Int32) M) = (0 : Int32) then
    some (-1 : Int32)
  else
    f_m_stays_21 N N x1 (0 : Int32) (0 : Int32) M)
def f_w_countToasts_2 (N : Nat) : Nat → Int32 → Mem → Option Mem
  | 0, _, _ => none
  | n + 1, x1, M =>
    (if (8 : Int32) ≤ x1 then
      some M
    else
      Option.bind (f_e_countOf N x1 (2 : Int32) M) fun q1 =>
      (if am_in x1 8 = true then
        Option.bind (some (si M 112 (x1).toNatClampNeg q1)) fun q2 =>
        f_w_countToasts_2 N n (x1 + (1 : Int32)) q2
      else none))
def f_w_countToasts (N : Nat) (M : Mem) : Option Mem :=
  f_w_countToasts_2 N N (0 : Int32) M
def f_w_nextByToasts_15 (N : Nat) : Nat → Int32 → Int32 → Mem → Option Int32
  | 0, _, _, _ => none
  | n + 1, x2, x3, M =>
    (if (gi M 7 3) ≤ x3 then
      some x2
    else
      (if (f_t_isThere x3 M) = (0 : Int32) then
        f_w_nextByToasts_15 N n x2 (x3 + (1 : Int32)) M
      else
        (if x2 < (0 : Int32) then
          f_w_nextByToasts_15 N n x3 (x3 + (1 : Int32)) M
        else
          (if am_in x3 8 = true then
            (if am_in x2 8 = true then
              (if (gi M 112 (x3).toNatClampNeg) < (gi M 112 (x2).toNatClampNeg) then
                f_w_nextByToasts_15 N n x3 (x3 + (1 : Int32)) M
              else
                (if am_in x3 8 = true then
                  (if am_in x2 8 = true then
                    (if (gi M 112 (x3).toNatClampNeg) = (gi M 112 (x2).toNatClampNeg) then
                      (if am_in x3 8 = true then
                        (if am_in x2 8 = true then
                          (if (gi M 8 (x3).toNatClampNeg) ≤ (gi M 8 (x2).toNatClampNeg) then
                            f_w_nextByToasts_15 N n x2 (x3 + (1 : Int32)) M
                          else
                            f_w_nextByToasts_15 N n x3 (x3 + (1 : Int32)) M)
                        else none)
                      else none)
                    else
                      f_w_nextByToasts_15 N n x2 (x3 + (1 : Int32)) M)
                  else none)
                else none))
            else none)
          else none))))
def f_w_nextByToasts (N : Nat) (M : Mem) : Option Int32 :=
  f_w_nextByToasts_15 N N (-1 : Int32) (0 : Int32) M
def f_w_round_29 (N : Nat) : Nat → Int32 → Int32 → Mem → Option (Int32 × Mem)
  | 0, _, _, _ => none
  | n + 1, x2, x3, M =>
    (if x2 ≤ x3 then
      Option.bind (f_w_nextByToasts N M) fun q2 =>
      some (q2, M)
    else
      Option.bind (f_w_nextByToasts N M) fun q3 =>
      (if (f_g_knows q3 M) = (0 : Int32) then
        some ((-1 : Int32), M)
      else
        (if am_in q3 8 = true then
          (if am_in q3 8 = true then
            Option.bind (some (si M 112 (q3).toNatClampNeg ((gi M 112 (q3).toNatClampNeg) + (1 : Int32)))) fun q4 =>
            f_w_round_29 N n x2 (x3 + (1 : Int32)) q4
          else none)
        else none)))
def f_w_round (N : Nat) (x1 : Int32) (x2 : Int32) (M : Mem) : Option (Int32 × Mem) :=
  (if (f_w_within x1 (1 : Int32) (20 : Int32) M) = (0 : Int32) then
    some ((-1 : Int32), M)
  else
    (if (f_w_within x2 (0 : Int32) (x1 - (1 : Int32)) M) = (0 : Int32) then
      some ((-1 : Int32), M)
    else
      Option.bind (f_w_countToasts N M) fun q1 =>
      f_w_round_29 N N x2 (0 : Int32) q1))
def f_m_layToasts_2 (N : Nat) : Nat → Int32 → Mem → Option Mem
  | 0, _, _ => none
  | n + 1, x1, M =>
    (if (8 : Int32) ≤ x1 then
      some M
    else
      Option.bind (f_m_get x1 (5 : Int32) M) fun q1 =>
      (if am_in x1 8 = true then
        Option.bind (some (si M 141 (x1).toNatClampNeg q1)) fun q2 =>
        f_m_layToasts_2 N n (x1 + (1 : Int32)) q2
      else none))
def f_m_layToasts (N : Nat) (M : Mem) : Option Mem :=
  f_m_layToasts_2 N N (0 : Int32) M
def f_m_nextBy_4 (N : Nat) : Nat → Int32 → Int32 → Mem → Option Int32
  | 0, _, _, _ => none
  | n + 1, x1, x2, M =>
    (if (gi M 130 0) ≤ x2 then
      some x1
    else
      Option.bind (f_m_isThere x2 M) fun q1 =>
      (if q1 = (0 : Int32) then
        f_m_nextBy_4 N n x1 (x2 + (1 : Int32)) M
      else
        (if x1 = (-1 : Int32) then
          f_m_nextBy_4 N n x2 (x2 + (1 : Int32)) M
        else
          (if am_in x2 8 = true then
            (if am_in x1 8 = true then
              (if (gi M 141 (x2).toNatClampNeg) < (gi M 141 (x1).toNatClampNeg) then
                f_m_nextBy_4 N n x2 (x2 + (1 : Int32)) M
              else
                (if am_in x2 8 = true then
                  (if am_in x1 8 = true then
                    (if (gi M 141 (x2).toNatClampNeg) = (gi M 141 (x1).toNatClampNeg) then
                      Option.bind (f_m_get x2 (0 : Int32) M) fun q2 =>
                      Option.bind (f_m_get x1 (0 : Int32) M) fun q3 =>
                      (if q2 ≤ q3 then
                        f_m_nextBy_4 N n x1 (x2 + (1 : Int32)) M
                      else
                        f_m_nextBy_4 N n x2 (x2 + (1 : Int32)) M)
                    else
                      f_m_nextBy_4 N n x1 (x2 + (1 : Int32)) M)
                  else none)
                else none))
            else none)
          else none))))
def f_m_nextBy (N : Nat) (M : Mem) : Option Int32 :=
  f_m_nextBy_4 N N (-1 : Int32) (0 : Int32) M
def f_m_round_42 (N : Nat) : Nat → Int32 → Int32 → Int32 → Mem → Option (Int32 × Mem)
  | 0, _, _, _, _ => none
  | n + 1, x2, x3, x4, M =>
    (if x2 ≤ x4 then
      some (x3, M)
    else
      (if am_in x3 8 = true then
        (if am_in x3 8 = true then
          Option.bind (some (si M 141 (x3).toNatClampNeg ((gi M 141 (x3).toNatClampNeg) + (1 : Int32)))) fun q4 =>
          Option.bind (f_m_nextBy N q4) fun q5 =>
          f_m_round_42 N n x2 q5 (x4 + (1 : Int32)) q4
        else none)
      else none))
def f_m_round (N : Nat) (x1 : Int32) (x2 : Int32) (M : Mem) : Option (Int32 × Mem) :=
  (if (f_m_isIn x1 (1 : Int32) (20 : Int32) M) = (0 : Int32) then
    some ((-1 : Int32), M)
  else
    (if (f_m_isIn x2 (0 : Int32) (x1 - (1 : Int32)) M) = (0 : Int32) then
      some ((-1 : Int32), M)
    else
      Option.bind (f_m_there N M) fun q1 =>
      (if q1 = (0 : Int32) then
        some ((-1 : Int32), M)
      else
        Option.bind (f_m_layToasts N M) fun q2 =>
        Option.bind (f_m_nextBy N q2) fun q3 =>
        f_m_round_42 N N x2 q3 (0 : Int32) q2)))
def f_e_standingWithout_52 (N : Nat) (K5 : Int32 → Int32 → Int32 → Int32 → Mem → Option Int32) (x1 : Int32) (x2 : Int32) (x3 : Int32) (x4 : Int32) (x5 : Int32) (x6 : Int32) (s0 : Int32) (M : Mem) : Option Int32 :=
  (if x6 = (-1 : Int32) then
    K5 x1 x2 x3 (x4 + (1 : Int32)) M
  else
    (if s0 = (0 : Int32) then
      K5 x1 x2 x3 (x4 + (1 : Int32)) M
    else
      K5 x1 x2 (f_w_joined x3 x6 (f_w_bitOf (f_e_whoOf x5 M) M) M) (x4 + (1 : Int32)) M))
def f_e_standingWithout_5 (N : Nat) : Nat → Int32 → Int32 → Int32 → Int32 → Mem → Option Int32
  | 0, _, _, _, _, _ => none
  | n + 1, x1, x2, x3, x4, M =>
    (if (f_e_spoken M) ≤ x4 then
      some x3
    else
      Option.bind (f_e_entry x4 M) fun q1 =>
      (if (f_e_whoOf q1 M) = x1 then
        (if x2 ≤ (f_e_momentOf q1 M) then
          f_e_standingWithout_52 N (f_e_standingWithout_5 N n) x1 x2 x3 x4 q1 (f_e_fallsOf q1 M) (0 : Int32) M
        else
          f_e_standingWithout_52 N (f_e_standingWithout_5 N n) x1 x2 x3 x4 q1 (f_e_fallsOf q1 M) (1 : Int32) M)
      else
        f_e_standingWithout_52 N (f_e_standingWithout_5 N n) x1 x2 x3 x4 q1 (f_e_fallsOf q1 M) (1 : Int32) M))
def f_e_standingWithout (N : Nat) (x1 : Int32) (x2 : Int32) (M : Mem) : Option Int32 :=
  f_e_standingWithout_5 N N x1 x2 (0 : Int32) (0 : Int32) M
def f_w_provoked_28 (N : Nat) : Nat → Int32 → Int32 → Int32 → Mem → Option Int32
  | 0, _, _, _, _ => none
  | n + 1, x1, x2, x3, M =>
    (if (gi M 7 3) ≤ x3 then
      some (-1 : Int32)
    else
      (if x3 = x1 then
        f_w_provoked_28 N n x1 x2 (x3 + (1 : Int32)) M
      else
        Option.bind (f_e_standingWithout N x3 x2 M) fun q1 =>
        (if (f_w_holders q1 M) = ((1 : Int32) <<< (x1 &&& 31)) then
          some x3
        else
          f_w_provoked_28 N n x1 x2 (x3 + (1 : Int32)) M)))
def f_w_provoked (N : Nat) (x1 : Int32) (x2 : Int32) (M : Mem) : Option Int32 :=
  (if (f_g_knows x1 M) = (0 : Int32) then
    some (-1 : Int32)
  else
    (if (f_w_within x2 (0 : Int32) (99 : Int32) M) = (0 : Int32) then
      some (-1 : Int32)
    else
      f_w_provoked_28 N N x1 x2 (0 : Int32) M))
def f_m_provoked_47 (N : Nat) (K22 : Int32 → Int32 → Int32 → Mem → Option (Int32 × Mem)) : Nat → Int32 → Int32 → Int32 → Int32 → Mem → Option (Int32 × Mem)
  | 0, _, _, _, _, _ => none
  | n + 1, x1, x2, x3, x4, M =>
    (if (gi M 130 8) ≤ x4 then
      (if (gi M 129 29) = ((1 : Int32) <<< (x1 &&& 31)) then
        some (x3, M)
      else
        K22 x1 x2 (x3 + (1 : Int32)) M)
    else
      Option.bind (f_m_whoOf x4 M) fun q2 =>
      (if q2 = x3 then
        Option.bind (f_m_momentOf x4 M) fun q3 =>
        (if x2 ≤ q3 then
          f_m_provoked_47 N K22 n x1 x2 x3 (x4 + (1 : Int32)) M
        else
          Option.bind (f_m_whoOf x4 M) fun q4 =>
          Option.bind (f_m_fallsOf x4 M) fun q5 =>
          Option.bind (f_m_consider q4 q5 M) fun q6 =>
          f_m_provoked_47 N K22 n x1 x2 x3 (x4 + (1 : Int32)) q6)
      else
        Option.bind (f_m_whoOf x4 M) fun q7 =>
        Option.bind (f_m_fallsOf x4 M) fun q8 =>
        Option.bind (f_m_consider q7 q8 M) fun q9 =>
        f_m_provoked_47 N K22 n x1 x2 x3 (x4 + (1 : Int32)) q9))
def f_m_provoked_22 (N : Nat) : Nat → Int32 → Int32 → Int32 → Mem → Option (Int32 × Mem)
  | 0, _, _, _, _ => none
  | n + 1, x1, x2, x3, M =>
    (if (gi M 130 0) ≤ x3 then
      some ((-1 : Int32), M)
    else
      (if x3 = x1 then
        f_m_provoked_22 N n x1 x2 (x3 + (1 : Int32)) M
      else
        Option.bind (f_m_startHolding M) fun q1 =>
        f_m_provoked_47 N (f_m_provoked_22 N n) N x1 x2 x3 (0 : Int32) q1))
def f_m_provoked (N : Nat) (x1 : Int32) (x2 : Int32) (M : Mem) : Option (Int32 × Mem) :=
  (if (f_m_isGuest x1 M) = (0 : Int32) then
    some ((-1 : Int32), M)
  else
    (if (f_m_isIn x2 (0 : Int32) (99 : Int32) M) = (0 : Int32) then
      some ((-1 : Int32), M)
    else
      f_m_provoked_22 N N x1 x2 (0 : Int32) M))
def f_e_inTheWayOf_108 (N : Nat) (K55 : Int32 → Int32 → Int32 → Int32 → Mem → Option Int32) (x1 : Int32) (x2 : Int32) (x3 : Int32) (x4 : Int32) (x6 : Int32) (M : Mem) : Option Int32 :=
  (if x2 < x6 then
    K55 x1 x2 (x3 + (1 : Int32)) (x4 + (1 : Int32)) M
  else
    K55 x1 x2 x3 (x4 + (1 : Int32)) M)
def f_e_inTheWayOf_55 (N : Nat) : Nat → Int32 → Int32 → Int32 → Int32 → Mem → Option Int32
  | 0, _, _, _, _, _ => none
  | n + 1, x1, x2, x3, x4, M =>
    (if (f_e_spoken M) ≤ x4 then
      some x3
    else
      Option.bind (f_e_entry x4 M) fun q3 =>
      (if (f_e_fallsOf q3 M) = x2 then
        (if (f_e_whoOf q3 M) = x1 then
          f_e_inTheWayOf_108 N (f_e_inTheWayOf_55 N n) x1 x2 x3 x4 (f_e_fallsOf q3 M) M
        else
          (if (f_e_whoOf q3 M) = (8 : Int32) then
            f_e_inTheWayOf_108 N (f_e_inTheWayOf_55 N n) x1 x2 x3 x4 (f_e_fallsOf q3 M) M
          else
            (if x2 < (f_e_fallsOf q3 M) then
              f_e_inTheWayOf_55 N n x1 x2 (x3 + (1 : Int32)) (x4 + (1 : Int32)) M
            else
              f_e_inTheWayOf_55 N n x1 x2 (x3 + (1 : Int32)) (x4 + (1 : Int32)) M)))
      else
        f_e_inTheWayOf_108 N (f_e_inTheWayOf_55 N n) x1 x2 x3 x4 (f_e_fallsOf q3 M) M))
def f_e_inTheWayOf_4 (N : Nat) : Nat → Int32 → Int32 → Int32 → Mem → Option Int32
  | 0, _, _, _, _ => none
  | n + 1, x1, x2, x3, M =>
    (if (f_e_spoken M) ≤ x3 then
      (if x2 = (-1 : Int32) then
        some (-1 : Int32)
      else
        f_e_inTheWayOf_55 N N x1 x2 (0 : Int32) (0 : Int32) M)
    else
      Option.bind (f_e_entry x3 M) fun q1 =>
      (if (f_e_whoOf q1 M) = x1 then
        Option.bind (f_e_entry x3 M) fun q2 =>
        f_e_inTheWayOf_4 N n x1 (f_k_max0 x2 (f_e_fallsOf q2 M) M) (x3 + (1 : Int32)) M
      else
        f_e_inTheWayOf_4 N n x1 x2 (x3 + (1 : Int32)) M))
def f_e_inTheWayOf (N : Nat) (x1 : Int32) (M : Mem) : Option Int32 :=
  f_e_inTheWayOf_4 N N x1 (-1 : Int32) (0 : Int32) M
def f_w_unsaid (N : Nat) (x1 : Int32) (M : Mem) : Option Int32 :=
  (if (f_g_knows x1 M) = (0 : Int32) then
    some (-1 : Int32)
  else
    Option.bind (f_e_inTheWayOf N x1 M) fun q1 =>
    some q1)
def f_m_unsaid_67 (N : Nat) : Nat → Int32 → Int32 → Int32 → Int32 → Mem → Option Int32
  | 0, _, _, _, _, _ => none
  | n + 1, x1, x2, x3, x4, M =>
    (if (gi M 130 8) ≤ x4 then
      some x3
    else
      Option.bind (f_m_fallsOf x4 M) fun q4 =>
      (if x2 < q4 then
        f_m_unsaid_67 N n x1 x2 (x3 + (1 : Int32)) (x4 + (1 : Int32)) M
      else
        Option.bind (f_m_fallsOf x4 M) fun q5 =>
        (if q5 = x2 then
          Option.bind (f_m_whoOf x4 M) fun q6 =>
          (if q6 = x1 then
            f_m_unsaid_67 N n x1 x2 (x3 + (0 : Int32)) (x4 + (1 : Int32)) M
          else
            Option.bind (f_m_whoOf x4 M) fun q7 =>
            (if q7 = (8 : Int32) then
              f_m_unsaid_67 N n x1 x2 (x3 + (0 : Int32)) (x4 + (1 : Int32)) M
            else
              f_m_unsaid_67 N n x1 x2 (x3 + (1 : Int32)) (x4 + (1 : Int32)) M))
        else
          f_m_unsaid_67 N n x1 x2 (x3 + (0 : Int32)) (x4 + (1 : Int32)) M)))
def f_m_unsaid_14 (N : Nat) : Nat → Int32 → Int32 → Int32 → Mem → Option Int32
  | 0, _, _, _, _ => none
  | n + 1, x1, x2, x3, M =>
    (if (gi M 130 8) ≤ x3 then
      (if x2 = (-1 : Int32) then
        some (-1 : Int32)
      else
        f_m_unsaid_67 N N x1 x2 (0 : Int32) (0 : Int32) M)
    else
      Option.bind (f_m_whoOf x3 M) fun q1 =>
      (if q1 = x1 then
        Option.bind (f_m_fallsOf x3 M) fun q2 =>
        (if q2 ≤ x2 then
          f_m_unsaid_14 N n x1 x2 (x3 + (1 : Int32)) M
        else
          Option.bind (f_m_fallsOf x3 M) fun q3 =>
          f_m_unsaid_14 N n x1 q3 (x3 + (1 : Int32)) M)
      else
        f_m_unsaid_14 N n x1 x2 (x3 + (1 : Int32)) M))
def f_m_unsaid (N : Nat) (x1 : Int32) (M : Mem) : Option Int32 :=
  (if (f_m_isGuest x1 M) = (0 : Int32) then
    some (-1 : Int32)
  else
    f_m_unsaid_14 N N x1 (-1 : Int32) (0 : Int32) M)
def f_w_nextToast (N : Nat) (M : Mem) : Option (Int32 × Mem) :=
  Option.bind (f_w_countToasts N M) fun q1 =>
  Option.bind (f_w_nextByToasts N q1) fun q2 =>
  some (q2, q1)
def f_m_nextToast (N : Nat) (M : Mem) : Option (Int32 × Mem) :=
  Option.bind (f_m_layToasts N M) fun q1 =>
  Option.bind (f_m_nextBy N q1) fun q2 =>
  some (q2, q1)
def f_w_odds (x1 : Int32) (x2 : Int32) (x3 : Int32) (M : Mem) : Option (Int32 × Mem) :=
  (if (f_w_within x1 (0 : Int32) (1 : Int32) M) = (0 : Int32) then
    some ((0 : Int32), M)
  else
    (if (f_w_within x2 (0 : Int32) (5 : Int32) M) = (0 : Int32) then
      some ((0 : Int32), M)
    else
      (if (f_w_within x3 (0 : Int32) (100 : Int32) M) = (0 : Int32) then
        some ((0 : Int32), M)
      else
        (if x1 = (0 : Int32) then
          (if am_in x2 6 = true then
            Option.bind (some (si M 48 (x2).toNatClampNeg x3)) fun q1 =>
            some ((1 : Int32), q1)
          else none)
        else (if x1 = (1 : Int32) then
          (if am_in x2 6 = true then
            Option.bind (some (si M 49 (x2).toNatClampNeg x3)) fun q2 =>
            some ((1 : Int32), q2)
          else none)
        else none)))))
def f_m_odds (x1 : Int32) (x2 : Int32) (x3 : Int32) (M : Mem) : Option (Int32 × Mem) :=
  (if (f_m_isIn x1 (0 : Int32) (1 : Int32) M) = (0 : Int32) then
    some ((0 : Int32), M)
  else
    (if (f_m_isIn x2 (0 : Int32) (5 : Int32) M) = (0 : Int32) then
      some ((0 : Int32), M)
    else
      (if (f_m_isIn x3 (0 : Int32) (100 : Int32) M) = (0 : Int32) then
        some ((0 : Int32), M)
      else
        (if am_in (((108 : Int32) + ((6 : Int32) * x1)) + x2) 3826 = true then
          Option.bind (some (si M 130 ((((108 : Int32) + ((6 : Int32) * x1)) + x2)).toNatClampNeg x3)) fun q1 =>
          some ((1 : Int32), q1)
        else none))))
def f_w_falls (x1 : Int32) (x2 : Int32) (M : Mem) : Option (Int32 × Mem) :=
  (if (f_w_within x1 (0 : Int32) (5 : Int32) M) = (0 : Int32) then
    some ((0 : Int32), M)
  else
    (if (f_g_knowsAll x2 M) = (0 : Int32) then
      some ((0 : Int32), M)
    else
      (if am_in x1 6 = true then
        Option.bind (some (si M 50 (x1).toNatClampNeg x2)) fun q1 =>
        some ((1 : Int32), q1)
      else none)))
def f_m_falls (x1 : Int32) (x2 : Int32) (M : Mem) : Option (Int32 × Mem) :=
  (if (f_m_isIn x1 (0 : Int32) (5 : Int32) M) = (0 : Int32) then
    some ((0 : Int32), M)
  else
    (if (f_m_isSet x2 M) = (0 : Int32) then
      some ((0 : Int32), M)
    else
      (if am_in ((120 : Int32) + x1) 3826 = true then
        Option.bind (some (si M 130 (((120 : Int32) + x1)).toNatClampNeg x2)) fun q1 =>
        some ((1 : Int32), q1)
      else none)))
def f_w_isToCome (x1 : Int32) (x2 : Int32) (x3 : Int32) (M : Mem) : Int32 :=
  (if (f_g_knows x1 M) = (0 : Int32) then
    (0 : Int32)
  else
    (if (f_w_within x2 (1 : Int32) (6 : Int32) M) = (0 : Int32) then
      (0 : Int32)
    else
      (if (f_w_within x3 (0 : Int32) (1 : Int32) M) = (0 : Int32) then
        (0 : Int32)
      else
        (1 : Int32))))
def f_c_startWith (x1 : Int32) (M : Mem) : Option Mem :=
  Option.bind (some (si M 46 2 x1)) fun q1 =>
  some q1
def f_c_part_69 (N : Nat) (K15 : Int32 → Int32 → Int32 → Int32 → Int64 → Int64 → Int32 → Int32 → Mem → Option Int64) (x1 : Int32) (x2 : Int32) (x3 : Int32) (x4 : Int32) (x5 : Int64) (x7 : Int64) (x10 : Int32) (s0 : Int32) (M : Mem) : Option Int64 :=
  (if (x3 &&& (1 : Int32)) = (0 : Int32) then
    (if am_in x10 6 = true then
      Option.bind (f_w_partOfWhole s0 x1 M) fun q1 =>
      K15 x1 x2 x3 x4 ((x5 * (100 : Int64)) + ((x7 * (Int32.toInt64 (gi M 48 (x10).toNatClampNeg))) * (Int32.toInt64 q1))) (x7 * (Int32.toInt64 ((100 : Int32) - (gi M 48 (x10).toNatClampNeg)))) s0 (x10 + (1 : Int32)) M
    else none)
  else (if (x3 &&& (1 : Int32)) = (1 : Int32) then
    (if am_in x10 6 = true then
      Option.bind (f_w_partOfWhole s0 x1 M) fun q2 =>
      K15 x1 x2 x3 x4 ((x5 * (100 : Int64)) + ((x7 * (Int32.toInt64 (gi M 49 (x10).toNatClampNeg))) * (Int32.toInt64 q2))) (x7 * (Int32.toInt64 ((100 : Int32) - (gi M 49 (x10).toNatClampNeg)))) s0 (x10 + (1 : Int32)) M
    else none)
  else none))
def f_c_part_15 (N : Nat) : Nat → Int32 → Int32 → Int32 → Int32 → Int64 → Int64 → Int32 → Int32 → Mem → Option Int64
  | 0, _, _, _, _, _, _, _, _, _ => none
  | n + 1, x1, x2, x3, x4, x5, x7, x9, x10, M =>
    (if x2 ≤ x10 then
      some x5
    else
      (if (6 : Int32) ≤ x10 then
        some x5
      else
        (if am_in x10 6 = true then
          (if ((x4 >>> (x10 &&& 31)) &&& (1 : Int32)) = (1 : Int32) then
            (if ((gi M 50 (x10).toNatClampNeg) ||| (f_w_bitOf x1 M)) = (0 : Int32) then
              f_c_part_69 N (f_c_part_15 N n) x1 x2 x3 x4 x5 x7 x10 x9 M
            else
              f_c_part_69 N (f_c_part_15 N n) x1 x2 x3 x4 x5 x7 x10 ((gi M 50 (x10).toNatClampNeg) ||| (f_w_bitOf x1 M)) M)
          else
            (if ((gi M 50 (x10).toNatClampNeg) ||| (0 : Int32)) = (0 : Int32) then
              f_c_part_69 N (f_c_part_15 N n) x1 x2 x3 x4 x5 x7 x10 x9 M
            else
              f_c_part_69 N (f_c_part_15 N n) x1 x2 x3 x4 x5 x7 x10 ((gi M 50 (x10).toNatClampNeg) ||| (0 : Int32)) M))
        else none)))
def f_c_part (N : Nat) (x1 : Int32) (x2 : Int32) (x3 : Int32) (x4 : Int32) (M : Mem) : Option Int64 :=
  f_c_part_15 N N x1 x2 x3 x4 (0 : Int64) (1 : Int64) (gi M 46 2) (0 : Int32) M
def f_c_bestMoment_6 (N : Nat) : Nat → Int32 → Int32 → Int32 → Int32 → Int32 → Mem → Option Int32
  | 0, _, _, _, _, _, _ => none
  | n + 1, x1, x2, x3, x4, x5, M =>
    (if x2 ≤ x5 then
      some x4
    else
      Option.bind (f_c_part N x1 x2 x3 ((1 : Int32) <<< (x5 &&& 31)) M) fun q1 =>
      Option.bind (f_c_part N x1 x2 x3 ((1 : Int32) <<< (x4 &&& 31)) M) fun q2 =>
      (if (lg_cmp q1 q2) ≤ (0 : Int32) then
        f_c_bestMoment_6 N n x1 x2 x3 x4 (x5 + (1 : Int32)) M
      else
        f_c_bestMoment_6 N n x1 x2 x3 x5 (x5 + (1 : Int32)) M))
def f_c_bestMoment (N : Nat) (x1 : Int32) (x2 : Int32) (x3 : Int32) (M : Mem) : Option Int32 :=
  f_c_bestMoment_6 N N x1 x2 x3 (0 : Int32) (1 : Int32) M
def f_w_when (N : Nat) (x1 : Int32) (x2 : Int32) (x3 : Int32) (x4 : Int32) (M : Mem) : Option (Int64 × Mem) :=
  (if (f_w_isToCome x1 x2 x3 M) = (0 : Int32) then
    some ((-1 : Int64), M)
  else
    (if (f_w_within x4 (0 : Int32) (2 : Int32) M) = (0 : Int32) then
      some ((-1 : Int64), M)
    else
      Option.bind (f_e_holdNow N M) fun q1 =>
      Option.bind (f_c_startWith q1 M) fun q2 =>
      Option.bind (f_c_bestMoment N x1 x2 x3 q2) fun q3 =>
      (if x4 = (0 : Int32) then
        some ((Int32.toInt64 q3), q2)
      else
        Option.bind (f_c_part N x1 x2 x3 ((1 : Int32) <<< (q3 &&& 31)) q2) fun q4 =>
        Option.bind (f_w_hundreds N x2 q2) fun q5 =>
        (if x4 = (2 : Int32) then
          Option.bind (f_w_lowest N q4 ((840 : Int64) * q5) (1 : Int32) q2) fun q6 =>
          some (q6, q2)
        else
          Option.bind (f_w_lowest N q4 ((840 : Int64) * q5) (0 : Int32) q2) fun q7 =>
          some (q7, q2)))))
def f_m_isToCome (x1 : Int32) (x2 : Int32) (x3 : Int32) (M : Mem) : Int32 :=
  (if (f_m_isGuest x1 M) = (0 : Int32) then
    (0 : Int32)
  else
    (if (f_m_isIn x2 (1 : Int32) (6 : Int32) M) = (0 : Int32) then
      (0 : Int32)
    else
      (if (f_m_isIn x3 (0 : Int32) (1 : Int32) M) = (0 : Int32) then
        (0 : Int32)
      else
        (1 : Int32))))
def f_m_oddsBy_60 (N : Nat) (K15 : Int32 → Int32 → Int32 → Int32 → Int32 → Int64 → Int64 → Int32 → Mem → Option (Int64 × Mem)) (x1 : Int32) (x2 : Int32) (x3 : Int32) (x4 : Int32) (x5 : Int32) (x6 : Int64) (x8 : Int64) (x10 : Int32) (M : Mem) : Option (Int64 × Mem) :=
  (if am_in (((108 : Int32) + ((6 : Int32) * x3)) + x10) 3826 = true then
    (if (f_m_has x5 x1 M) = (0 : Int32) then
      K15 x1 x2 x3 x4 x5 x6 (x8 * (Int32.toInt64 ((100 : Int32) - (gi M 130 ((((108 : Int32) + ((6 : Int32) * x3)) + x10)).toNatClampNeg)))) (x10 + (1 : Int32)) M
    else
      Option.bind (f_m_power N ((x2 - (1 : Int32)) - x10) M) fun q2 =>
      Option.bind (f_m_bits N x5 M) fun q3 =>
      (if (Int32.toInt64 q3) = 0 then none else
        K15 x1 x2 x3 x4 x5 (x6 + (((x8 * (Int32.toInt64 (gi M 130 ((((108 : Int32) + ((6 : Int32) * x3)) + x10)).toNatClampNeg))) * q2) * ((840 : Int64) / (Int32.toInt64 q3)))) (x8 * (Int32.toInt64 ((100 : Int32) - (gi M 130 ((((108 : Int32) + ((6 : Int32) * x3)) + x10)).toNatClampNeg)))) (x10 + (1 : Int32)) M))
  else none)
def f_m_oddsBy_15 (N : Nat) : Nat → Int32 → Int32 → Int32 → Int32 → Int32 → Int64 → Int64 → Int32 → Mem → Option (Int64 × Mem)
  | 0, _, _, _, _, _, _, _, _, _ => none
  | n + 1, x1, x2, x3, x4, x5, x6, x8, x10, M =>
    (if x2 ≤ x10 then
      some (x6, M)
    else
      (if am_in ((120 : Int32) + x10) 3826 = true then
        (if (f_m_has x4 x10 M) = (0 : Int32) then
          (if ((gi M 130 (((120 : Int32) + x10)).toNatClampNeg) ||| (0 : Int32)) = (0 : Int32) then
            f_m_oddsBy_60 N (f_m_oddsBy_15 N n) x1 x2 x3 x4 x5 x6 x8 x10 M
          else
            f_m_oddsBy_60 N (f_m_oddsBy_15 N n) x1 x2 x3 x4 ((gi M 130 (((120 : Int32) + x10)).toNatClampNeg) ||| (0 : Int32)) x6 x8 x10 M)
        else
          (if ((gi M 130 (((120 : Int32) + x10)).toNatClampNeg) ||| ((1 : Int32) <<< (x1 &&& 31))) = (0 : Int32) then
            f_m_oddsBy_60 N (f_m_oddsBy_15 N n) x1 x2 x3 x4 x5 x6 x8 x10 M
          else
            f_m_oddsBy_60 N (f_m_oddsBy_15 N n) x1 x2 x3 x4 ((gi M 130 (((120 : Int32) + x10)).toNatClampNeg) ||| ((1 : Int32) <<< (x1 &&& 31))) x6 x8 x10 M))
      else none))
def f_m_oddsBy (N : Nat) (x1 : Int32) (x2 : Int32) (x3 : Int32) (x4 : Int32) (M : Mem) : Option (Int64 × Mem) :=
  Option.bind (f_m_holdNow N M) fun q1 =>
  f_m_oddsBy_15 N N x1 x2 x3 x4 q1.1 (0 : Int64) (1 : Int64) (0 : Int32) q1.2
def f_m_when_30 (N : Nat) : Nat → Int32 → Int32 → Int32 → Int32 → Int32 → Int32 → Mem → Option (Int64 × Mem)
  | 0, _, _, _, _, _, _, _ => none
  | n + 1, x1, x2, x3, x4, x5, x6, M =>
    (if x2 ≤ x6 then
      (if x4 = (0 : Int32) then
        some ((Int32.toInt64 x5), M)
      else
        Option.bind (f_m_oddsBy N x1 x2 x3 ((1 : Int32) <<< (x5 &&& 31)) M) fun q1 =>
        Option.bind (f_m_power N x2 q1.2) fun q2 =>
        (if x4 = (2 : Int32) then
          Option.bind (f_m_part N q1.1 ((840 : Int64) * q2) (1 : Int32) q1.2) fun q3 =>
          some (q3, q1.2)
        else
          Option.bind (f_m_part N q1.1 ((840 : Int64) * q2) (0 : Int32) q1.2) fun q4 =>
          some (q4, q1.2)))
    else
      Option.bind (f_m_oddsBy N x1 x2 x3 ((1 : Int32) <<< (x6 &&& 31)) M) fun q5 =>
      Option.bind (f_m_oddsBy N x1 x2 x3 ((1 : Int32) <<< (x5 &&& 31)) q5.2) fun q6 =>
      (if (lg_cmp q5.1 q6.1) ≤ (0 : Int32) then
        f_m_when_30 N n x1 x2 x3 x4 x5 (x6 + (1 : Int32)) q6.2
      else
        f_m_when_30 N n x1 x2 x3 x4 x6 (x6 + (1 : Int32)) q6.2))
def f_m_when (N : Nat) (x1 : Int32) (x2 : Int32) (x3 : Int32) (x4 : Int32) (M : Mem) : Option (Int64 × Mem) :=
  (if (f_m_isToCome x1 x2 x3 M) = (0 : Int32) then
    some ((-1 : Int64), M)
  else
    (if (f_m_isIn x4 (0 : Int32) (2 : Int32) M) = (0 : Int32) then
      some ((-1 : Int64), M)
    else
      f_m_when_30 N N x1 x2 x3 x4 (0 : Int32) (1 : Int32) M))
def f_c_bestMoments_17 (N : Nat) : Nat → Int32 → Int32 → Int32 → Int32 → Int32 → Int64 → Int32 → Mem → Option Int32
  | 0, _, _, _, _, _, _, _, _ => none
  | n + 1, x1, x2, x3, x4, x5, x6, x8, M =>
    (if ((1 : Int32) <<< (x2 &&& 31)) ≤ x8 then
      some x5
    else
      (if (f_k_bitCount x8 M) ≤ x3 then
        Option.bind (f_c_part N x1 x2 x4 x8 M) fun q2 =>
        (if (0 : Int32) < (lg_cmp q2 x6) then
          f_c_bestMoments_17 N n x1 x2 x3 x4 x8 q2 (x8 + (1 : Int32)) M
        else
          (if (lg_cmp q2 x6) = (0 : Int32) then
            (if (f_k_bitCount x5 M) ≤ (f_k_bitCount x8 M) then
              f_c_bestMoments_17 N n x1 x2 x3 x4 x5 x6 (x8 + (1 : Int32)) M
            else
              f_c_bestMoments_17 N n x1 x2 x3 x4 x8 q2 (x8 + (1 : Int32)) M)
          else
            f_c_bestMoments_17 N n x1 x2 x3 x4 x5 x6 (x8 + (1 : Int32)) M))
      else
        f_c_bestMoments_17 N n x1 x2 x3 x4 x5 x6 (x8 + (1 : Int32)) M))
def f_c_bestMoments (N : Nat) (x1 : Int32) (x2 : Int32) (x3 : Int32) (x4 : Int32) (M : Mem) : Option Int32 :=
  Option.bind (f_c_part N x1 x2 x4 (0 : Int32) M) fun q1 =>
  f_c_bestMoments_17 N N x1 x2 x3 x4 (0 : Int32) q1 (1 : Int32) M
def f_w_words (N : Nat) (x1 : Int32) (x2 : Int32) (x3 : Int32) (x4 : Int32) (x5 : Int32) (M : Mem) : Option (Int64 × Mem) :=
  (if (f_w_isToCome x1 x2 x4 M) = (0 : Int32) then
    some ((-1 : Int64), M)
  else
    (if (f_w_within x3 (0 : Int32) (6 : Int32) M) = (0 : Int32) then
      some ((-1 : Int64), M)
    else
      (if (f_w_within x5 (0 : Int32) (2 : Int32) M) = (0 : Int32) then
        some ((-1 : Int64), M)
      else
        Option.bind (f_e_holdNow N M) fun q1 =>
        Option.bind (f_c_startWith q1 M) fun q2 =>
        Option.bind (f_c_bestMoments N x1 x2 x3 x4 q2) fun q3 =>
        (if x5 = (0 : Int32) then
          some ((Int32.toInt64 q3), q2)
        else
          Option.bind (f_c_part N x1 x2 x4 q3 q2) fun q4 =>
          Option.bind (f_w_hundreds N x2 q2) fun q5 =>
          (if x5 = (2 : Int32) then
            Option.bind (f_w_lowest N q4 ((840 : Int64) * q5) (1 : Int32) q2) fun q6 =>
            some (q6, q2)
          else
            Option.bind (f_w_lowest N q4 ((840 : Int64) * q5) (0 : Int32) q2) fun q7 =>
            some (q7, q2))))))
def f_m_bestWords_6 (N : Nat) : Nat → Int32 → Int32 → Int32 → Int32 → Int32 → Int32 → Mem → Option (Int32 × Mem)
  | 0, _, _, _, _, _, _, _ => none
  | n + 1, x1, x2, x3, x4, x5, x6, M =>
    (if ((1 : Int32) <<< (x2 &&& 31)) ≤ x6 then
      some (x5, M)
    else
      Option.bind (f_m_bits N x6 M) fun q1 =>
      (if q1 ≤ x4 then
        Option.bind (f_m_oddsBy N x1 x2 x3 x6 M) fun q2 =>
        Option.bind (f_m_oddsBy N x1 x2 x3 x5 q2.2) fun q3 =>
        (if (0 : Int32) < (lg_cmp (q2.1 - q3.1) (0 : Int64)) then
          f_m_bestWords_6 N n x1 x2 x3 x4 x6 (x6 + (1 : Int32)) q3.2
        else
          (if (lg_cmp (q2.1 - q3.1) (0 : Int64)) = (0 : Int32) then
            Option.bind (f_m_bits N x6 q3.2) fun q4 =>
            Option.bind (f_m_bits N x5 q3.2) fun q5 =>
            (if q5 ≤ q4 then
              f_m_bestWords_6 N n x1 x2 x3 x4 x5 (x6 + (1 : Int32)) q3.2
            else
              f_m_bestWords_6 N n x1 x2 x3 x4 x6 (x6 + (1 : Int32)) q3.2)
          else
            f_m_bestWords_6 N n x1 x2 x3 x4 x5 (x6 + (1 : Int32)) q3.2))
      else
        f_m_bestWords_6 N n x1 x2 x3 x4 x5 (x6 + (1 : Int32)) M))
def f_m_bestWords (N : Nat) (x1 : Int32) (x2 : Int32) (x3 : Int32) (x4 : Int32) (M : Mem) : Option (Int32 × Mem) :=
  f_m_bestWords_6 N N x1 x2 x3 x4 (0 : Int32) (1 : Int32) M
def f_m_words (N : Nat) (x1 : Int32) (x2 : Int32) (x3 : Int32) (x4 : Int32) (x5 : Int32) (M : Mem) : Option (Int64 × Mem) :=
  (if (f_m_isToCome x1 x2 x4 M) = (0 : Int32) then
    some ((-1 : Int64), M)
  else
    (if (f_m_isIn x3 (0 : Int32) (6 : Int32) M) = (0 : Int32) then
      some ((-1 : Int64), M)
    else
      (if (f_m_isIn x5 (0 : Int32) (2 : Int32) M) = (0 : Int32) then
        some ((-1 : Int64), M)
      else
        Option.bind (f_m_bestWords N x1 x2 x4 x3 M) fun q1 =>
        (if x5 = (0 : Int32) then
          some ((Int32.toInt64 q1.1), q1.2)
        else
          Option.bind (f_m_oddsBy N x1 x2 x4 q1.1 q1.2) fun q2 =>
          Option.bind (f_m_power N x2 q2.2) fun q3 =>
          (if x5 = (2 : Int32) then
            Option.bind (f_m_part N q2.1 ((840 : Int64) * q3) (1 : Int32) q2.2) fun q4 =>
            some (q4, q2.2)
          else
            Option.bind (f_m_part N q2.1 ((840 : Int64) * q3) (0 : Int32) q2.2) fun q5 =>
            some (q5, q2.2))))))
def f_c_fewestFor_34 (N : Nat) (K6 : Int32 → Int32 → Int32 → Int64 → Int32 → Int32 → Mem → Option Int32) (x1 : Int32) (x2 : Int32) (x3 : Int32) (x4 : Int64) (x6 : Int32) (x7 : Int32) (x8 : Int32) (M : Mem) : Option Int32 :=
  Option.bind (f_c_part N x1 x2 x3 x7 M) fun q1 =>
  (if (lg_cmp q1 x4) < (0 : Int32) then
    K6 x1 x2 x3 x4 x6 (x7 + (1 : Int32)) M
  else
    K6 x1 x2 x3 x4 x8 (x7 + (1 : Int32)) M)
def f_c_fewestFor_6 (N : Nat) : Nat → Int32 → Int32 → Int32 → Int64 → Int32 → Int32 → Mem → Option Int32
  | 0, _, _, _, _, _, _, _ => none
  | n + 1, x1, x2, x3, x4, x6, x7, M =>
    (if ((1 : Int32) <<< (x2 &&& 31)) ≤ x7 then
      some x6
    else
      (if x6 = (-1 : Int32) then
        f_c_fewestFor_34 N (f_c_fewestFor_6 N n) x1 x2 x3 x4 x6 x7 (f_k_bitCount x7 M) M
      else
        (if x6 ≤ (f_k_bitCount x7 M) then
          f_c_fewestFor_6 N n x1 x2 x3 x4 x6 (x7 + (1 : Int32)) M
        else
          f_c_fewestFor_34 N (f_c_fewestFor_6 N n) x1 x2 x3 x4 x6 x7 (f_k_bitCount x7 M) M)))
def f_c_fewestFor (N : Nat) (x1 : Int32) (x2 : Int32) (x3 : Int32) (x4 : Int64) (M : Mem) : Option Int32 :=
  f_c_fewestFor_6 N N x1 x2 x3 x4 (-1 : Int32) (0 : Int32) M
def f_w_fewest (N : Nat) (x1 : Int32) (x2 : Int32) (x3 : Int32) (x4 : Int32) (M : Mem) : Option (Int32 × Mem) :=
  (if (f_w_isToCome x1 x2 x3 M) = (0 : Int32) then
    some ((-1 : Int32), M)
  else
    (if (f_w_within x4 (1 : Int32) (100 : Int32) M) = (0 : Int32) then
      some ((-1 : Int32), M)
    else
      Option.bind (f_e_holdNow N M) fun q1 =>
      Option.bind (f_c_startWith q1 M) fun q2 =>
      Option.bind (f_w_hundreds N x2 q2) fun q3 =>
      Option.bind (f_c_fewestFor N x1 x2 x3 ((((840 : Int64) * q3) / (100 : Int64)) * (Int32.toInt64 x4)) q2) fun q4 =>
      some (q4, q2)))
def f_m_fewest_26 (N : Nat) : Nat → Int32 → Int32 → Int32 → Int32 → Int32 → Mem → Option (Int32 × Mem)
  | 0, _, _, _, _, _, _ => none
  | n + 1, x1, x2, x3, x4, x5, M =>
    (if (7 : Int32) ≤ x5 then
      some ((-1 : Int32), M)
    else
      Option.bind (f_m_bestWords N x1 x2 x3 x5 M) fun q1 =>
      Option.bind (f_m_oddsBy N x1 x2 x3 q1.1 q1.2) fun q2 =>
      Option.bind (f_m_power N x2 q2.2) fun q3 =>
      (if (lg_cmp ((100 : Int64) * q2.1) (((Int32.toInt64 x4) * (840 : Int64)) * q3)) < (0 : Int32) then
        f_m_fewest_26 N n x1 x2 x3 x4 (x5 + (1 : Int32)) q2.2
      else
        some (x5, q2.2)))
def f_m_fewest (N : Nat) (x1 : Int32) (x2 : Int32) (x3 : Int32) (x4 : Int32) (M : Mem) : Option (Int32 × Mem) :=
  (if (f_m_isToCome x1 x2 x3 M) = (0 : Int32) then
    some ((-1 : Int32), M)
  else
    (if (f_m_isIn x4 (1 : Int32) (100 : Int32) M) = (0 : Int32) then
      some ((-1 : Int32), M)
    else
      f_m_fewest_26 N N x1 x2 x3 x4 (0 : Int32) M))
def f_k_fill1_52_6 (N : Nat) : Nat → Int64 → Int32 → Int32 → Mem → Option Mem
  | 0, _, _, _, _ => none
  | n + 1, x1, x3, x4, M =>
    (if x4 ≤ x3 then
      some M
    else
      (if am_in x3 16 = true then
        Option.bind (some (sj M 52 (x3).toNatClampNeg x1)) fun q1 =>
        f_k_fill1_52_6 N n x1 (x3 + (1 : Int32)) x4 q1
      else none))
def f_k_fill1_52 (N : Nat) (x1 : Int64) (M : Mem) : Option Mem :=
  f_k_fill1_52_6 N N x1 (0 : Int32) (16 : Int32) M
def f_c_outcome_42 (x2 : Int32) (x3 : Int32) (x4 : Int32) (s0 : Int32) (M : Mem) : Option Int64 :=
  (if am_in (((x2 &&& (3 : Int32)) <<< (2 : Int32)) ||| (x3 &&& (3 : Int32))) 16 = true then
    some (((Int32.toInt64 (x4 * s0)) * (gj M 46 5)) + ((Int32.toInt64 ((100 : Int32) - x4)) * (gj M 52 ((((x2 &&& (3 : Int32)) <<< (2 : Int32)) ||| (x3 &&& (3 : Int32)))).toNatClampNeg)))
  else none)
def f_c_outcome (x1 : Int32) (x2 : Int32) (x3 : Int32) (M : Mem) : Option Int64 :=
  (if (f_w_within x1 (0 : Int32) (5 : Int32) M) = (0 : Int32) then
    (if x2 = (1 : Int32) then
      f_c_outcome_42 x2 x3 (0 : Int32) (1 : Int32) M
    else
      (if x2 = (2 : Int32) then
        f_c_outcome_42 x2 x3 (0 : Int32) (-1 : Int32) M
      else
        f_c_outcome_42 x2 x3 (0 : Int32) (0 : Int32) M))
  else
    (if am_in x1 6 = true then
      (if x2 = (1 : Int32) then
        f_c_outcome_42 x2 x3 (gi M 48 (x1).toNatClampNeg) (1 : Int32) M
      else
        (if x2 = (2 : Int32) then
          f_c_outcome_42 x2 x3 (gi M 48 (x1).toNatClampNeg) (-1 : Int32) M
        else
          f_c_outcome_42 x2 x3 (gi M 48 (x1).toNatClampNeg) (0 : Int32) M))
    else none))
def f_c_bestOfSecond_13 (x1 : Int32) (x3 : Int32) (x4 : Int32) (s1 : Int32) (s2 : Int32) (M : Mem) : Option Int64 :=
  Option.bind (f_c_outcome s1 s2 x3 M) fun q1 =>
  (if (x3 &&& (2 : Int32)) = (0 : Int32) then
    some q1
  else
    Option.bind (f_c_outcome x1 (x4 ||| (2 : Int32)) (x3 &&& (1 : Int32)) M) fun q2 =>
    some (f_k_min1 q1 q2 M))
def f_c_bestOfSecond (x1 : Int32) (x2 : Int32) (x3 : Int32) (x4 : Int32) (M : Mem) : Option Int64 :=
  (if x4 = (0 : Int32) then
    f_c_bestOfSecond_13 x1 x3 x4 x1 x2 M
  else
    f_c_bestOfSecond_13 x1 x3 x4 x1 x4 M)
def f_c_bestOfFirst (x1 : Int32) (x2 : Int32) (x3 : Int32) (M : Mem) : Option Int64 :=
  Option.bind (f_c_bestOfSecond x1 x2 x3 (0 : Int32) M) fun q1 =>
  (if (x3 &&& (1 : Int32)) = (0 : Int32) then
    some q1
  else
    Option.bind (f_c_bestOfSecond x1 x2 (x3 &&& (2 : Int32)) (1 : Int32) M) fun q2 =>
    some (f_k_max1 q1 q2 M))
def f_c_play_23 (N : Nat) (K17 : Int32 → Mem → Option Mem) : Nat → Int32 → Int32 → Mem → Option Mem
  | 0, _, _, _ => none
  | n + 1, x2, x3, M =>
    (if (16 : Int32) ≤ x3 then
      Option.bind (some (sl M 52 (va_cpy (M.2 51) (M.2 52) 0 0 16))) fun q9 =>
      Option.bind (some (sj q9 46 5 ((gj q9 46 5) * (100 : Int64)))) fun q10 =>
      K17 (x2 + (-1 : Int32)) q10
    else
      Option.bind (f_c_bestOfFirst x2 (x3 >>> (2 : Int32)) (x3 &&& (3 : Int32)) M) fun q11 =>
      (if am_in x3 16 = true then
        Option.bind (some (sj M 51 (x3).toNatClampNeg q11)) fun q12 =>
        f_c_play_23 N K17 n x2 (x3 + (1 : Int32)) q12
      else none))
def f_c_play_17 (N : Nat) : Nat → Int32 → Mem → Option Mem
  | 0, _, _ => none
  | n + 1, x2, M =>
    (if x2 ≤ (0 : Int32) then
      Option.bind (f_c_bestOfSecond (0 : Int32) (0 : Int32) (3 : Int32) (0 : Int32) M) fun q3 =>
      Option.bind (f_c_bestOfSecond (0 : Int32) (0 : Int32) (2 : Int32) (1 : Int32) M) fun q4 =>
      (if (lg_cmp q4 q3) ≤ (0 : Int32) then
        Option.bind (some (si M 46 7 (0 : Int32))) fun q5 =>
        Option.bind (some (sj q5 46 6 (f_k_max1 q4 q3 q5))) fun q6 =>
        some q6
      else
        Option.bind (some (si M 46 7 (1 : Int32))) fun q7 =>
        Option.bind (some (sj q7 46 6 (f_k_max1 q4 q3 q7))) fun q8 =>
        some q8)
    else
      f_c_play_23 N (f_c_play_17 N n) N x2 (0 : Int32) M)
def f_c_play (N : Nat) (x1 : Int32) (M : Mem) : Option Mem :=
  Option.bind (f_k_fill1_52 N (0 : Int64) M) fun q1 =>
  Option.bind (some (sj q1 46 5 (1 : Int64))) fun q2 =>
  f_c_play_17 N N (x1 - (1 : Int32)) q2
def f_w_game (N : Nat) (x1 : Int32) (x2 : Int32) (M : Mem) : Option (Int64 × Mem) :=
  (if (f_w_within x1 (1 : Int32) (5 : Int32) M) = (0 : Int32) then
    some ((-2 : Int64), M)
  else
    (if (f_w_within x2 (0 : Int32) (2 : Int32) M) = (0 : Int32) then
      some ((-2 : Int64), M)
    else
      Option.bind (f_c_play N x1 M) fun q1 =>
      (if x2 = (2 : Int32) then
        (if (gi q1 46 7) = (0 : Int32) then
          some ((0 : Int64), q1)
        else
          some ((1 : Int64), q1))
      else
        Option.bind (f_w_hundreds N x1 q1) fun q2 =>
        (if x2 = (1 : Int32) then
          Option.bind (f_w_lowest N (gj q1 46 6) q2 (1 : Int32) q1) fun q3 =>
          some (q3, q1)
        else
          Option.bind (f_w_lowest N (gj q1 46 6) q2 (0 : Int32) q1) fun q4 =>
          some (q4, q1)))))
def f_m_spoken_50 (x3 : Int32) (x4 : Int32) (x5 : Int64) (x7 : Int32) (x8 : Int32) (s0 : Int64) (M : Mem) : Option Int64 :=
  (if am_in (((4 : Int32) * x7) + (x3 &&& (x4 ^^^ (-1 : Int32)))) 16 = true then
    some ((s0 * x5) + ((Int32.toInt64 ((100 : Int32) - x8)) * (gj M 142 ((((4 : Int32) * x7) + (x3 &&& (x4 ^^^ (-1 : Int32))))).toNatClampNeg)))
  else none)
def f_m_spoken_11 (x1 : Int32) (x3 : Int32) (x4 : Int32) (x5 : Int64) (s0 : Int32) (M : Mem) : Option Int64 :=
  (if am_in ((108 : Int32) + x1) 3826 = true then
    (if s0 = (1 : Int32) then
      f_m_spoken_50 x3 x4 x5 s0 (gi M 130 (((108 : Int32) + x1)).toNatClampNeg) (Int32.toInt64 (gi M 130 (((108 : Int32) + x1)).toNatClampNeg)) M
    else
      (if s0 = (2 : Int32) then
        f_m_spoken_50 x3 x4 x5 s0 (gi M 130 (((108 : Int32) + x1)).toNatClampNeg) (Int32.toInt64 (-(gi M 130 (((108 : Int32) + x1)).toNatClampNeg))) M
      else
        f_m_spoken_50 x3 x4 x5 s0 (gi M 130 (((108 : Int32) + x1)).toNatClampNeg) (0 : Int64) M))
  else none)
def f_m_spoken (x1 : Int32) (x2 : Int32) (x3 : Int32) (x4 : Int32) (x5 : Int64) (M : Mem) : Option Int64 :=
  (if x4 = (0 : Int32) then
    f_m_spoken_11 x1 x3 x4 x5 x2 M
  else
    f_m_spoken_11 x1 x3 x4 x5 x4 M)
def f_m_answered (x1 : Int32) (x2 : Int32) (x3 : Int32) (x4 : Int32) (x5 : Int64) (M : Mem) : Option Int64 :=
  Option.bind (f_m_spoken x1 x2 x3 x4 x5 M) fun q1 =>
  (if (x3 &&& (2 : Int32)) = (0 : Int32) then
    some q1
  else
    Option.bind (f_m_spoken x1 x2 x3 (x4 ||| (2 : Int32)) x5 M) fun q2 =>
    (if (0 : Int32) ≤ (lg_cmp q2 q1) then
      some q1
    else
      some q2))
def f_m_game_138 (N : Nat) (K53 : Int32 → Int64 → Int32 → Int32 → Mem → Option (Int64 × Mem)) (K61 : Int32 → Int64 → Int32 → Int32 → Int32 → Mem → Option (Int64 × Mem)) (x2 : Int32) (x3 : Int64) (x5 : Int32) (x6 : Int32) (x7 : Int32) (x8 : Int64) (x10 : Int64) (s1 : Int32) (s2 : Int64) (M : Mem) : Option (Int64 × Mem) :=
  (if am_in s1 16 = true then
    Option.bind (some (sj M 143 (s1).toNatClampNeg s2)) fun q6 =>
    (if x7 = (3 : Int32) then
      (if (lg_cmp x10 x8) ≤ (0 : Int32) then
        K61 x2 x3 (0 : Int32) x6 (x7 + (1 : Int32)) q6
      else
        K61 x2 x3 (1 : Int32) x6 (x7 + (1 : Int32)) q6)
    else
      K61 x2 x3 x5 x6 (x7 + (1 : Int32)) q6)
  else none)
def f_m_game_169 (N : Nat) (K53 : Int32 → Int64 → Int32 → Int32 → Mem → Option (Int64 × Mem)) : Nat → Int32 → Int64 → Int32 → Int32 → Int32 → Mem → Option (Int64 × Mem)
  | 0, _, _, _, _, _, _ => none
  | n + 1, x2, x3, x5, x6, x7, M =>
    (if (16 : Int32) ≤ x7 then
      K53 x2 (x3 * (100 : Int64)) x5 (x6 + (-1 : Int32)) M
    else
      (if am_in x7 16 = true then
        (if am_in x7 16 = true then
          Option.bind (some (sj M 142 (x7).toNatClampNeg (gj M 143 (x7).toNatClampNeg))) fun q7 =>
          f_m_game_169 N K53 n x2 x3 x5 x6 (x7 + (1 : Int32)) q7
        else none)
      else none))
def f_m_game_61 (N : Nat) (K53 : Int32 → Int64 → Int32 → Int32 → Mem → Option (Int64 × Mem)) : Nat → Int32 → Int64 → Int32 → Int32 → Int32 → Mem → Option (Int64 × Mem)
  | 0, _, _, _, _, _, _ => none
  | n + 1, x2, x3, x5, x6, x7, M =>
    (if (16 : Int32) ≤ x7 then
      f_m_game_169 N K53 N x2 x3 x5 x6 (0 : Int32) M
    else
      Option.bind (f_m_answered x6 (x7 / (4 : Int32)) (x7 - x7 / (4 : Int32) * (4 : Int32)) (0 : Int32) x3 M) fun q4 =>
      (if (x7 &&& (1 : Int32)) = (1 : Int32) then
        Option.bind (f_m_answered x6 (x7 / (4 : Int32)) (x7 - x7 / (4 : Int32) * (4 : Int32)) (1 : Int32) x3 M) fun q5 =>
        (if (lg_cmp q5 q4) ≤ (0 : Int32) then
          f_m_game_138 N K53 (f_m_game_61 N K53 n) x2 x3 x5 x6 x7 q4 q5 x7 q4 M
        else
          f_m_game_138 N K53 (f_m_game_61 N K53 n) x2 x3 x5 x6 x7 q4 q5 x7 q5 M)
      else
        (if (lg_cmp q4 q4) ≤ (0 : Int32) then
          f_m_game_138 N K53 (f_m_game_61 N K53 n) x2 x3 x5 x6 x7 q4 q4 x7 q4 M
        else
          f_m_game_138 N K53 (f_m_game_61 N K53 n) x2 x3 x5 x6 x7 q4 q4 x7 q4 M)))
def f_m_game_53 (N : Nat) : Nat → Int32 → Int64 → Int32 → Int32 → Mem → Option (Int64 × Mem)
  | 0, _, _, _, _, _ => none
  | n + 1, x2, x3, x5, x6, M =>
    (if x6 < (0 : Int32) then
      (if x2 = (2 : Int32) then
        (if x5 = (0 : Int32) then
          some ((0 : Int64), M)
        else
          some ((1 : Int64), M))
      else
        (if x2 = (1 : Int32) then
          Option.bind (f_m_part N (gj M 142 3) x3 (1 : Int32) M) fun q2 =>
          some (q2, M)
        else
          Option.bind (f_m_part N (gj M 142 3) x3 (0 : Int32) M) fun q3 =>
          some (q3, M)))
    else
      f_m_game_61 N (f_m_game_53 N n) N x2 x3 x5 x6 (0 : Int32) M)
def f_m_game_24 (N : Nat) : Nat → Int32 → Int32 → Int32 → Mem → Option (Int64 × Mem)
  | 0, _, _, _, _ => none
  | n + 1, x1, x2, x3, M =>
    (if (16 : Int32) ≤ x3 then
      f_m_game_53 N N x2 (1 : Int64) (0 : Int32) (x1 - (1 : Int32)) M
    else
      (if am_in x3 16 = true then
        Option.bind (some (sj M 142 (x3).toNatClampNeg (0 : Int64))) fun q1 =>
        f_m_game_24 N n x1 x2 (x3 + (1 : Int32)) q1
      else none))
def f_m_game (N : Nat) (x1 : Int32) (x2 : Int32) (M : Mem) : Option (Int64 × Mem) :=
  (if (f_m_isIn x1 (1 : Int32) (5 : Int32) M) = (0 : Int32) then
    some ((-2 : Int64), M)
  else
    (if (f_m_isIn x2 (0 : Int32) (2 : Int32) M) = (0 : Int32) then
      some ((-2 : Int64), M)
    else
      f_m_game_24 N N x1 x2 (0 : Int32) M))
def f_c_worthOfKnowing_6 (N : Nat) : Nat → Int32 → Int32 → Int32 → Int64 → Int32 → Mem → Option Int64
  | 0, _, _, _, _, _, _ => none
  | n + 1, x1, x2, x3, x4, x6, M =>
    (if x2 ≤ x6 then
      Option.bind (f_c_bestMoment N x1 x2 (0 : Int32) M) fun q1 =>
      Option.bind (f_c_part N x1 x2 (0 : Int32) ((1 : Int32) <<< (q1 &&& 31)) M) fun q2 =>
      Option.bind (f_c_bestMoment N x1 x2 (1 : Int32) M) fun q3 =>
      Option.bind (f_c_part N x1 x2 (1 : Int32) ((1 : Int32) <<< (q3 &&& 31)) M) fun q4 =>
      some ((((Int32.toInt64 x3) * q2) + ((Int32.toInt64 ((10 : Int32) - x3)) * q4)) - x4)
    else
      Option.bind (f_c_part N x1 x2 (0 : Int32) ((1 : Int32) <<< (x6 &&& 31)) M) fun q5 =>
      Option.bind (f_c_part N x1 x2 (1 : Int32) ((1 : Int32) <<< (x6 &&& 31)) M) fun q6 =>
      f_c_worthOfKnowing_6 N n x1 x2 x3 (f_k_max1 x4 (((Int32.toInt64 x3) * q5) + ((Int32.toInt64 ((10 : Int32) - x3)) * q6)) M) (x6 + (1 : Int32)) M)
def f_c_worthOfKnowing (N : Nat) (x1 : Int32) (x2 : Int32) (x3 : Int32) (M : Mem) : Option Int64 :=
  f_c_worthOfKnowing_6 N N x1 x2 x3 (0 : Int64) (0 : Int32) M
def f_w_cough (N : Nat) (x1 : Int32) (x2 : Int32) (x3 : Int32) (x4 : Int32) (M : Mem) : Option (Int64 × Mem) :=
  (if (f_w_isToCome x1 x2 (0 : Int32) M) = (0 : Int32) then
    some ((-1 : Int64), M)
  else
    (if (f_w_within x3 (0 : Int32) (10 : Int32) M) = (0 : Int32) then
      some ((-1 : Int64), M)
    else
      Option.bind (f_e_holdNow N M) fun q1 =>
      Option.bind (f_c_startWith q1 M) fun q2 =>
      Option.bind (f_c_worthOfKnowing N x1 x2 x3 q2) fun q3 =>
      Option.bind (f_w_hundreds N x2 q2) fun q4 =>
      Option.bind (f_w_lowest N q3 ((8400 : Int64) * q4) x4 q2) fun q5 =>
      some (q5, q2)))
def f_m_cough_100 (N : Nat) (K36 : Int32 → Int32 → Int32 → Int32 → Int64 → Int64 → Int64 → Int32 → Mem → Option (Int64 × Mem)) (x1 : Int32) (x2 : Int32) (x3 : Int32) (x4 : Int32) (x5 : Int64) (x7 : Int64) (x11 : Int32) (x12 : Int64) (x14 : Int64) (s0 : Int64) (M : Mem) : Option (Int64 × Mem) :=
  (if (lg_cmp (((Int32.toInt64 x3) * x12) + ((Int32.toInt64 ((10 : Int32) - x3)) * x14)) x5) ≤ (0 : Int32) then
    K36 x1 x2 x3 x4 x5 x7 s0 (x11 + (1 : Int32)) M
  else
    K36 x1 x2 x3 x4 (((Int32.toInt64 x3) * x12) + ((Int32.toInt64 ((10 : Int32) - x3)) * x14)) x7 s0 (x11 + (1 : Int32)) M)
def f_m_cough_36 (N : Nat) : Nat → Int32 → Int32 → Int32 → Int32 → Int64 → Int64 → Int64 → Int32 → Mem → Option (Int64 × Mem)
  | 0, _, _, _, _, _, _, _, _, _ => none
  | n + 1, x1, x2, x3, x4, x5, x7, x9, x11, M =>
    (if x2 ≤ x11 then
      Option.bind (f_m_power N x2 M) fun q1 =>
      Option.bind (f_m_part N ((((Int32.toInt64 x3) * x7) + ((Int32.toInt64 ((10 : Int32) - x3)) * x9)) - x5) ((8400 : Int64) * q1) x4 M) fun q2 =>
      some (q2, M)
    else
      Option.bind (f_m_oddsBy N x1 x2 (0 : Int32) ((1 : Int32) <<< (x11 &&& 31)) M) fun q3 =>
      Option.bind (f_m_oddsBy N x1 x2 (1 : Int32) ((1 : Int32) <<< (x11 &&& 31)) q3.2) fun q4 =>
      (if (lg_cmp q3.1 x7) ≤ (0 : Int32) then
        (if (lg_cmp q4.1 x9) ≤ (0 : Int32) then
          f_m_cough_100 N (f_m_cough_36 N n) x1 x2 x3 x4 x5 x7 x11 q3.1 q4.1 x9 q4.2
        else
          f_m_cough_100 N (f_m_cough_36 N n) x1 x2 x3 x4 x5 x7 x11 q3.1 q4.1 q4.1 q4.2)
      else
        (if (lg_cmp q4.1 x9) ≤ (0 : Int32) then
          f_m_cough_100 N (f_m_cough_36 N n) x1 x2 x3 x4 x5 q3.1 x11 q3.1 q4.1 x9 q4.2
        else
          f_m_cough_100 N (f_m_cough_36 N n) x1 x2 x3 x4 x5 q3.1 x11 q3.1 q4.1 q4.1 q4.2)))
def f_m_cough (N : Nat) (x1 : Int32) (x2 : Int32) (x3 : Int32) (x4 : Int32) (M : Mem) : Option (Int64 × Mem) :=
  (if (f_m_isToCome x1 x2 (0 : Int32) M) = (0 : Int32) then
    some ((-1 : Int64), M)
  else
    (if (f_m_isIn x3 (0 : Int32) (10 : Int32) M) = (0 : Int32) then
      some ((-1 : Int64), M)
    else
      f_m_cough_36 N N x1 x2 x3 x4 (0 : Int64) (0 : Int64) (0 : Int64) (0 : Int32) M))
def f_g_copyFrom_54_7 (M : Mem) : Option Mem :=
  Option.bind (some (sr M 55 (va_cpy (M.1 8) (M.1 55) 0 0 8))) fun q1 =>
  Option.bind (some (sr q1 56 (va_cpy (q1.1 9) (q1.1 56) 0 0 8))) fun q2 =>
  Option.bind (some (sr q2 57 (va_cpy (q2.1 10) (q2.1 57) 0 0 8))) fun q3 =>
  Option.bind (some (si q3 54 3 (gi q3 7 3))) fun q4 =>
  some q4
def f_e_copyFrom_58_12 (M : Mem) : Option Mem :=
  Option.bind (some (sr M 59 (va_cpy (M.1 12) (M.1 59) 0 0 66))) fun q1 =>
  some q1
def f_c_copyFrom_93_46 (M : Mem) : Option Mem :=
  Option.bind (some (sr M 95 (va_cpy (M.1 48) (M.1 95) 0 0 6))) fun q1 =>
  Option.bind (some (sr q1 96 (va_cpy (q1.1 49) (q1.1 96) 0 0 6))) fun q2 =>
  Option.bind (some (sr q2 97 (va_cpy (q2.1 50) (q2.1 97) 0 0 6))) fun q3 =>
  some q3
def f_t_copyFrom_53_6 (N : Nat) (M : Mem) : Option Mem :=
  Option.bind (f_g_copyFrom_54_7 M) fun q1 =>
  Option.bind (f_e_copyFrom_58_12 q1) fun q2 =>
  Option.bind (f_s_copyFrom_61_14 N q2) fun q3 =>
  Option.bind (f_c_copyFrom_93_46 q3) fun q4 =>
  Option.bind (some (si q4 53 4 (gi q4 6 4))) fun q5 =>
  Option.bind (some (si q5 53 5 (gi q5 6 5))) fun q6 =>
  some q6
def f_w_image (N : Nat) (M : Mem) : Option (Int32 × Mem) :=
  Option.bind (f_t_copyFrom_53_6 N M) fun q1 =>
  some ((f_e_night q1), q1)
def f_m_copy_130_131_2 (N : Nat) : Nat → Int32 → Mem → Option Mem
  | 0, _, _ => none
  | n + 1, x2, M =>
    (if (3826 : Int32) ≤ x2 then
      some M
    else
      (if am_in x2 3826 = true then
        (if am_in x2 3826 = true then
          Option.bind (some (si M 131 (x2).toNatClampNeg (gi M 130 (x2).toNatClampNeg))) fun q1 =>
          f_m_copy_130_131_2 N n (x2 + (1 : Int32)) q1
        else none)
      else none))
def f_m_copy_130_131 (N : Nat) (M : Mem) : Option Mem :=
  f_m_copy_130_131_2 N N (0 : Int32) M
def f_m_image (N : Nat) (M : Mem) : Option (Int32 × Mem) :=
  Option.bind (f_m_copy_130_131 N M) fun q1 =>
  some ((gi q1 130 1), q1)
def f_g_copyFrom_7_54 (M : Mem) : Option Mem :=
  Option.bind (some (sr M 8 (va_cpy (M.1 55) (M.1 8) 0 0 8))) fun q1 =>
  Option.bind (some (sr q1 9 (va_cpy (q1.1 56) (q1.1 9) 0 0 8))) fun q2 =>
  Option.bind (some (sr q2 10 (va_cpy (q2.1 57) (q2.1 10) 0 0 8))) fun q3 =>
  Option.bind (some (si q3 7 3 (gi q3 54 3))) fun q4 =>
  some q4
def f_e_copyFrom_11_59 (M : Mem) : Option Mem :=
  Option.bind (some (sr M 12 (va_cpy (M.1 59) (M.1 12) 0 0 66))) fun q1 =>
  some q1
def f_c_copyFrom_46_93 (M : Mem) : Option Mem :=
  Option.bind (some (sr M 48 (va_cpy (M.1 95) (M.1 48) 0 0 6))) fun q1 =>
  Option.bind (some (sr q1 49 (va_cpy (q1.1 96) (q1.1 49) 0 0 6))) fun q2 =>
  Option.bind (some (sr q2 50 (va_cpy (q2.1 97) (q2.1 50) 0 0 6))) fun q3 =>
  some q3
def f_t_copyFrom_6_53 (N : Nat) (M : Mem) : Option Mem :=
  Option.bind (f_g_copyFrom_7_54 M) fun q1 =>
  Option.bind (f_e_copyFrom_11_59 q1) fun q2 =>
  Option.bind (f_s_copyFrom_14_61 N q2) fun q3 =>
  Option.bind (f_c_copyFrom_46_93 q3) fun q4 =>
  Option.bind (some (si q4 6 4 (gi q4 53 4))) fun q5 =>
  Option.bind (some (si q5 6 5 (gi q5 53 5))) fun q6 =>
  some q6
def f_w_back (N : Nat) (M : Mem) : Option (Int32 × Mem) :=
  Option.bind (f_t_copyFrom_6_53 N M) fun q1 =>
  some ((f_e_night q1), q1)
def f_m_copy_131_130_2 (N : Nat) : Nat → Int32 → Mem → Option Mem
  | 0, _, _ => none
  | n + 1, x2, M =>
    (if (3826 : Int32) ≤ x2 then
      some M
    else
      (if am_in x2 3826 = true then
        (if am_in x2 3826 = true then
          Option.bind (some (si M 130 (x2).toNatClampNeg (gi M 131 (x2).toNatClampNeg))) fun q1 =>
          f_m_copy_131_130_2 N n (x2 + (1 : Int32)) q1
        else none)
      else none))
def f_m_copy_131_130 (N : Nat) (M : Mem) : Option Mem :=
  f_m_copy_131_130_2 N N (0 : Int32) M
def f_m_back (N : Nat) (M : Mem) : Option (Int32 × Mem) :=
  Option.bind (f_m_copy_131_130 N M) fun q1 =>
  some ((gi q1 130 1), q1)
def f_w_about (N : Nat) (x1 : Int32) (M : Mem) : Option Int32 :=
  (if x1 = (0 : Int32) then
    some (gi M 7 3)
  else (if x1 = (1 : Int32) then
    some (f_e_night M)
  else (if x1 = (2 : Int32) then
    some (f_e_moment M)
  else (if x1 = (3 : Int32) then
    Option.bind (f_e_wine N M) fun q1 =>
    some q1
  else (if x1 = (4 : Int32) then
    some (f_e_draw M)
  else (if x1 = (5 : Int32) then
    some (gi M 6 4)
  else (if x1 = (6 : Int32) then
    some (gi M 6 5)
  else (if x1 = (7 : Int32) then
    some (gi M 14 2)
  else (if x1 = (8 : Int32) then
    some (f_t_there M)
  else (if x1 = (9 : Int32) then
    some (gi M 100 3)
  else 
    some (-2 : Int32)))))))))))
def f_m_about (N : Nat) (x1 : Int32) (M : Mem) : Option Int32 :=
  (if (f_m_isIn x1 (0 : Int32) (7 : Int32) M) = (0 : Int32) then
    (if x1 = (8 : Int32) then
      Option.bind (f_m_there N M) fun q1 =>
      some q1
    else
      (if x1 = (9 : Int32) then
        some (gi M 129 4)
      else
        some (-2 : Int32)))
  else
    (if am_in x1 3826 = true then
      some (gi M 130 (x1).toNatClampNeg)
    else none))

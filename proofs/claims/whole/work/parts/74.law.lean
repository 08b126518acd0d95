/-! The law's loop as a function. -/
def f_law_236 (S : Nat × (Nat → Int32)) (N : Nat) (K18 : Int32 → Mem → Option (Int32 × Mem)) (x3 : Int32) (M : Mem) : Option (Int32 × Mem) :=
  (if am_in (x3 + (1 : Int32)) S.1 = true then
    (if am_in (x3 + (2 : Int32)) S.1 = true then
      (if am_in (x3 + (3 : Int32)) S.1 = true then
        Option.bind (f_w_guest (S.2 ((x3 + (1 : Int32))).toNatClampNeg) (S.2 ((x3 + (2 : Int32))).toNatClampNeg) (S.2 ((x3 + (3 : Int32))).toNatClampNeg) M) fun q123 =>
        (if am_in (x3 + (1 : Int32)) S.1 = true then
          (if am_in (x3 + (2 : Int32)) S.1 = true then
            (if am_in (x3 + (3 : Int32)) S.1 = true then
              Option.bind (f_m_guest (S.2 ((x3 + (1 : Int32))).toNatClampNeg) (S.2 ((x3 + (2 : Int32))).toNatClampNeg) (S.2 ((x3 + (3 : Int32))).toNatClampNeg) q123.2) fun q124 =>
              (if q123.1 = q124.1 then
                K18 (x3 + (6 : Int32)) q124.2
              else
                some ((0 : Int32), q124.2))
            else none)
          else none)
        else none)
      else none)
    else none)
  else none)
def f_law_279 (S : Nat × (Nat → Int32)) (N : Nat) (K18 : Int32 → Mem → Option (Int32 × Mem)) (x3 : Int32) (M : Mem) : Option (Int32 × Mem) :=
  (if am_in (x3 + (1 : Int32)) S.1 = true then
    (if am_in (x3 + (2 : Int32)) S.1 = true then
      (if am_in (x3 + (3 : Int32)) S.1 = true then
        (if am_in (x3 + (4 : Int32)) S.1 = true then
          (if am_in (x3 + (5 : Int32)) S.1 = true then
            Option.bind (f_w_feed N (S.2 ((x3 + (1 : Int32))).toNatClampNeg) (S.2 ((x3 + (2 : Int32))).toNatClampNeg) (S.2 ((x3 + (3 : Int32))).toNatClampNeg) (S.2 ((x3 + (4 : Int32))).toNatClampNeg) (S.2 ((x3 + (5 : Int32))).toNatClampNeg) M) fun q121 =>
            (if am_in (x3 + (1 : Int32)) S.1 = true then
              (if am_in (x3 + (2 : Int32)) S.1 = true then
                (if am_in (x3 + (3 : Int32)) S.1 = true then
                  (if am_in (x3 + (4 : Int32)) S.1 = true then
                    (if am_in (x3 + (5 : Int32)) S.1 = true then
                      Option.bind (f_m_feed N (S.2 ((x3 + (1 : Int32))).toNatClampNeg) (S.2 ((x3 + (2 : Int32))).toNatClampNeg) (S.2 ((x3 + (3 : Int32))).toNatClampNeg) (S.2 ((x3 + (4 : Int32))).toNatClampNeg) (S.2 ((x3 + (5 : Int32))).toNatClampNeg) q121.2) fun q122 =>
                      (if q121.1 = q122.1 then
                        K18 (x3 + (6 : Int32)) q122.2
                      else
                        some ((0 : Int32), q122.2))
                    else none)
                  else none)
                else none)
              else none)
            else none)
          else none)
        else none)
      else none)
    else none)
  else none)
def f_law_342 (S : Nat × (Nat → Int32)) (N : Nat) (K18 : Int32 → Mem → Option (Int32 × Mem)) (x3 : Int32) (M : Mem) : Option (Int32 × Mem) :=
  (if am_in (x3 + (1 : Int32)) S.1 = true then
    Option.bind (f_w_end (S.2 ((x3 + (1 : Int32))).toNatClampNeg) M) fun q119 =>
    (if am_in (x3 + (1 : Int32)) S.1 = true then
      Option.bind (f_m_end (S.2 ((x3 + (1 : Int32))).toNatClampNeg) q119.2) fun q120 =>
      (if q119.1 = q120.1 then
        K18 (x3 + (6 : Int32)) q120.2
      else
        some ((0 : Int32), q120.2))
    else none)
  else none)
def f_law_365 (S : Nat × (Nat → Int32)) (N : Nat) (K18 : Int32 → Mem → Option (Int32 × Mem)) (x3 : Int32) (M : Mem) : Option (Int32 × Mem) :=
  Option.bind (f_w_text N M) fun q117 =>
  Option.bind (f_m_text N q117.2) fun q118 =>
  (if q117.1 = q118.1 then
    K18 (x3 + (6 : Int32)) q118.2
  else
    some ((0 : Int32), q118.2))
def f_law_378 (S : Nat × (Nat → Int32)) (N : Nat) (K18 : Int32 → Mem → Option (Int32 × Mem)) (x3 : Int32) (M : Mem) : Option (Int32 × Mem) :=
  (if am_in (x3 + (1 : Int32)) S.1 = true then
    (if am_in (x3 + (1 : Int32)) S.1 = true then
      (if (f_w_fault (S.2 ((x3 + (1 : Int32))).toNatClampNeg) M) = (f_m_fault (S.2 ((x3 + (1 : Int32))).toNatClampNeg) M) then
        K18 (x3 + (6 : Int32)) M
      else
        some ((0 : Int32), M))
    else none)
  else none)
def f_law_401 (S : Nat × (Nat → Int32)) (N : Nat) (K18 : Int32 → Mem → Option (Int32 × Mem)) (x3 : Int32) (M : Mem) : Option (Int32 × Mem) :=
  (if am_in (x3 + (1 : Int32)) S.1 = true then
    Option.bind (f_w_by (S.2 ((x3 + (1 : Int32))).toNatClampNeg) M) fun q115 =>
    (if am_in (x3 + (1 : Int32)) S.1 = true then
      Option.bind (f_m_by (S.2 ((x3 + (1 : Int32))).toNatClampNeg) q115.2) fun q116 =>
      (if q115.1 = q116.1 then
        K18 (x3 + (6 : Int32)) q116.2
      else
        some ((0 : Int32), q116.2))
    else none)
  else none)
def f_law_424 (S : Nat × (Nat → Int32)) (N : Nat) (K18 : Int32 → Mem → Option (Int32 × Mem)) (x3 : Int32) (M : Mem) : Option (Int32 × Mem) :=
  (if am_in (x3 + (1 : Int32)) S.1 = true then
    (if am_in (x3 + (2 : Int32)) S.1 = true then
      Option.bind (f_w_say N (S.2 ((x3 + (1 : Int32))).toNatClampNeg) (S.2 ((x3 + (2 : Int32))).toNatClampNeg) M) fun q113 =>
      (if am_in (x3 + (1 : Int32)) S.1 = true then
        (if am_in (x3 + (2 : Int32)) S.1 = true then
          Option.bind (f_m_say N (S.2 ((x3 + (1 : Int32))).toNatClampNeg) (S.2 ((x3 + (2 : Int32))).toNatClampNeg) q113.2) fun q114 =>
          (if q113.1 = q114.1 then
            K18 (x3 + (6 : Int32)) q114.2
          else
            some ((0 : Int32), q114.2))
        else none)
      else none)
    else none)
  else none)
def f_law_457 (S : Nat × (Nat → Int32)) (N : Nat) (K18 : Int32 → Mem → Option (Int32 × Mem)) (x3 : Int32) (M : Mem) : Option (Int32 × Mem) :=
  Option.bind (f_w_ask M) fun q111 =>
  Option.bind (f_m_ask N q111.2) fun q112 =>
  (if q111.1 = q112.1 then
    K18 (x3 + (6 : Int32)) q112.2
  else
    some ((0 : Int32), q112.2))
def f_law_470 (S : Nat × (Nat → Int32)) (N : Nat) (K18 : Int32 → Mem → Option (Int32 × Mem)) (x3 : Int32) (M : Mem) : Option (Int32 × Mem) :=
  (if am_in (x3 + (1 : Int32)) S.1 = true then
    Option.bind (f_w_pass N (S.2 ((x3 + (1 : Int32))).toNatClampNeg) M) fun q109 =>
    (if am_in (x3 + (1 : Int32)) S.1 = true then
      Option.bind (f_m_pass N (S.2 ((x3 + (1 : Int32))).toNatClampNeg) q109.2) fun q110 =>
      (if q109.1 = q110.1 then
        K18 (x3 + (6 : Int32)) q110.2
      else
        some ((0 : Int32), q110.2))
    else none)
  else none)
def f_law_493 (S : Nat × (Nat → Int32)) (N : Nat) (K18 : Int32 → Mem → Option (Int32 × Mem)) (x3 : Int32) (M : Mem) : Option (Int32 × Mem) :=
  (if am_in (x3 + (1 : Int32)) S.1 = true then
    Option.bind (f_w_send (S.2 ((x3 + (1 : Int32))).toNatClampNeg) M) fun q107 =>
    (if am_in (x3 + (1 : Int32)) S.1 = true then
      Option.bind (f_m_send N (S.2 ((x3 + (1 : Int32))).toNatClampNeg) q107.2) fun q108 =>
      (if q107.1 = q108.1 then
        K18 (x3 + (6 : Int32)) q108.2
      else
        some ((0 : Int32), q108.2))
    else none)
  else none)
def f_law_516 (S : Nat × (Nat → Int32)) (N : Nat) (K18 : Int32 → Mem → Option (Int32 × Mem)) (x3 : Int32) (M : Mem) : Option (Int32 × Mem) :=
  Option.bind (f_w_dinner N M) fun q105 =>
  Option.bind (f_m_dinner N q105.2) fun q106 =>
  (if q105.1 = q106.1 then
    K18 (x3 + (6 : Int32)) q106.2
  else
    some ((0 : Int32), q106.2))
def f_law_529 (S : Nat × (Nat → Int32)) (N : Nat) (K18 : Int32 → Mem → Option (Int32 × Mem)) (x3 : Int32) (M : Mem) : Option (Int32 × Mem) :=
  (if am_in (x3 + (1 : Int32)) S.1 = true then
    Option.bind (f_w_played N (S.2 ((x3 + (1 : Int32))).toNatClampNeg) M) fun q103 =>
    (if am_in (x3 + (1 : Int32)) S.1 = true then
      Option.bind (f_m_played N (S.2 ((x3 + (1 : Int32))).toNatClampNeg) q103.2) fun q104 =>
      (if q103.1 = q104.1 then
        K18 (x3 + (6 : Int32)) q104.2
      else
        some ((0 : Int32), q104.2))
    else none)
  else none)
def f_law_552 (S : Nat × (Nat → Int32)) (N : Nat) (K18 : Int32 → Mem → Option (Int32 × Mem)) (x3 : Int32) (M : Mem) : Option (Int32 × Mem) :=
  (if am_in (x3 + (1 : Int32)) S.1 = true then
    (if am_in (x3 + (2 : Int32)) S.1 = true then
      Option.bind (f_w_years N (S.2 ((x3 + (1 : Int32))).toNatClampNeg) (S.2 ((x3 + (2 : Int32))).toNatClampNeg) M) fun q101 =>
      (if am_in (x3 + (1 : Int32)) S.1 = true then
        (if am_in (x3 + (2 : Int32)) S.1 = true then
          Option.bind (f_m_years N (S.2 ((x3 + (1 : Int32))).toNatClampNeg) (S.2 ((x3 + (2 : Int32))).toNatClampNeg) q101.2) fun q102 =>
          (if q101.1 = q102.1 then
            K18 (x3 + (6 : Int32)) q102.2
          else
            some ((0 : Int32), q102.2))
        else none)
      else none)
    else none)
  else none)
def f_law_585 (S : Nat × (Nat → Int32)) (N : Nat) (K18 : Int32 → Mem → Option (Int32 × Mem)) (x3 : Int32) (M : Mem) : Option (Int32 × Mem) :=
  Option.bind (f_w_undo M) fun q99 =>
  Option.bind (f_m_undo N q99.2) fun q100 =>
  (if q99.1 = q100.1 then
    K18 (x3 + (6 : Int32)) q100.2
  else
    some ((0 : Int32), q100.2))
def f_law_598 (S : Nat × (Nat → Int32)) (N : Nat) (K18 : Int32 → Mem → Option (Int32 × Mem)) (x3 : Int32) (M : Mem) : Option (Int32 × Mem) :=
  (if am_in (x3 + (1 : Int32)) S.1 = true then
    (if am_in (x3 + (2 : Int32)) S.1 = true then
      Option.bind (f_w_of N (S.2 ((x3 + (1 : Int32))).toNatClampNeg) (S.2 ((x3 + (2 : Int32))).toNatClampNeg) M) fun q97 =>
      (if am_in (x3 + (1 : Int32)) S.1 = true then
        (if am_in (x3 + (2 : Int32)) S.1 = true then
          Option.bind (f_m_of N (S.2 ((x3 + (1 : Int32))).toNatClampNeg) (S.2 ((x3 + (2 : Int32))).toNatClampNeg) q97.2) fun q98 =>
          (if q97.1 = q98.1 then
            K18 (x3 + (6 : Int32)) q98.2
          else
            some ((0 : Int32), q98.2))
        else none)
      else none)
    else none)
  else none)
def f_law_631 (S : Nat × (Nat → Int32)) (N : Nat) (K18 : Int32 → Mem → Option (Int32 × Mem)) (x3 : Int32) (M : Mem) : Option (Int32 × Mem) :=
  (if am_in (x3 + (1 : Int32)) S.1 = true then
    (if (S.2 ((x3 + (1 : Int32))).toNatClampNeg) = (0 : Int32) then
      Option.bind (f_w_holds N (0 : Int32) M) fun q91 =>
      (if am_in (x3 + (1 : Int32)) S.1 = true then
        (if (S.2 ((x3 + (1 : Int32))).toNatClampNeg) = (0 : Int32) then
          Option.bind (f_m_holds N (0 : Int32) M) fun q92 =>
          (if q91 = q92.1 then
            K18 (x3 + (6 : Int32)) q92.2
          else
            some ((0 : Int32), q92.2))
        else
          Option.bind (f_m_holds N (1 : Int32) M) fun q93 =>
          (if q91 = q93.1 then
            K18 (x3 + (6 : Int32)) q93.2
          else
            some ((0 : Int32), q93.2)))
      else none)
    else
      Option.bind (f_w_holds N (1 : Int32) M) fun q94 =>
      (if am_in (x3 + (1 : Int32)) S.1 = true then
        (if (S.2 ((x3 + (1 : Int32))).toNatClampNeg) = (0 : Int32) then
          Option.bind (f_m_holds N (0 : Int32) M) fun q95 =>
          (if q94 = q95.1 then
            K18 (x3 + (6 : Int32)) q95.2
          else
            some ((0 : Int32), q95.2))
        else
          Option.bind (f_m_holds N (1 : Int32) M) fun q96 =>
          (if q94 = q96.1 then
            K18 (x3 + (6 : Int32)) q96.2
          else
            some ((0 : Int32), q96.2)))
      else none))
  else none)
def f_law_670 (S : Nat × (Nat → Int32)) (N : Nat) (K18 : Int32 → Mem → Option (Int32 × Mem)) (x3 : Int32) (M : Mem) : Option (Int32 × Mem) :=
  (if am_in (x3 + (1 : Int32)) S.1 = true then
    (if am_in (x3 + (2 : Int32)) S.1 = true then
      Option.bind (f_w_log (S.2 ((x3 + (1 : Int32))).toNatClampNeg) (S.2 ((x3 + (2 : Int32))).toNatClampNeg) M) fun q89 =>
      (if am_in (x3 + (1 : Int32)) S.1 = true then
        (if am_in (x3 + (2 : Int32)) S.1 = true then
          Option.bind (f_m_log0 (S.2 ((x3 + (1 : Int32))).toNatClampNeg) (S.2 ((x3 + (2 : Int32))).toNatClampNeg) M) fun q90 =>
          (if q89 = q90 then
            K18 (x3 + (6 : Int32)) M
          else
            some ((0 : Int32), M))
        else none)
      else none)
    else none)
  else none)
def f_law_703 (S : Nat × (Nat → Int32)) (N : Nat) (K18 : Int32 → Mem → Option (Int32 × Mem)) (x3 : Int32) (M : Mem) : Option (Int32 × Mem) :=
  (if am_in (x3 + (1 : Int32)) S.1 = true then
    (if am_in (x3 + (2 : Int32)) S.1 = true then
      Option.bind (f_w_book (S.2 ((x3 + (1 : Int32))).toNatClampNeg) (S.2 ((x3 + (2 : Int32))).toNatClampNeg) M) fun q87 =>
      (if am_in (x3 + (1 : Int32)) S.1 = true then
        (if am_in (x3 + (2 : Int32)) S.1 = true then
          Option.bind (f_m_book (S.2 ((x3 + (1 : Int32))).toNatClampNeg) (S.2 ((x3 + (2 : Int32))).toNatClampNeg) M) fun q88 =>
          (if q87 = q88 then
            K18 (x3 + (6 : Int32)) M
          else
            some ((0 : Int32), M))
        else none)
      else none)
    else none)
  else none)
def f_law_736 (S : Nat × (Nat → Int32)) (N : Nat) (K18 : Int32 → Mem → Option (Int32 × Mem)) (x3 : Int32) (M : Mem) : Option (Int32 × Mem) :=
  (if am_in (x3 + (1 : Int32)) S.1 = true then
    (if am_in (x3 + (2 : Int32)) S.1 = true then
      (if am_in (x3 + (3 : Int32)) S.1 = true then
        (if (S.2 ((x3 + (3 : Int32))).toNatClampNeg) = (0 : Int32) then
          Option.bind (f_w_inherits N (S.2 ((x3 + (1 : Int32))).toNatClampNeg) (S.2 ((x3 + (2 : Int32))).toNatClampNeg) (0 : Int32) M) fun q81 =>
          (if am_in (x3 + (1 : Int32)) S.1 = true then
            (if am_in (x3 + (2 : Int32)) S.1 = true then
              (if am_in (x3 + (3 : Int32)) S.1 = true then
                (if (S.2 ((x3 + (3 : Int32))).toNatClampNeg) = (0 : Int32) then
                  Option.bind (f_m_inherits N (S.2 ((x3 + (1 : Int32))).toNatClampNeg) (S.2 ((x3 + (2 : Int32))).toNatClampNeg) (0 : Int32) M) fun q82 =>
                  (if (lg_cmp q81 q82) = (0 : Int32) then
                    K18 (x3 + (6 : Int32)) M
                  else
                    some ((0 : Int32), M))
                else
                  Option.bind (f_m_inherits N (S.2 ((x3 + (1 : Int32))).toNatClampNeg) (S.2 ((x3 + (2 : Int32))).toNatClampNeg) (1 : Int32) M) fun q83 =>
                  (if (lg_cmp q81 q83) = (0 : Int32) then
                    K18 (x3 + (6 : Int32)) M
                  else
                    some ((0 : Int32), M)))
              else none)
            else none)
          else none)
        else
          Option.bind (f_w_inherits N (S.2 ((x3 + (1 : Int32))).toNatClampNeg) (S.2 ((x3 + (2 : Int32))).toNatClampNeg) (1 : Int32) M) fun q84 =>
          (if am_in (x3 + (1 : Int32)) S.1 = true then
            (if am_in (x3 + (2 : Int32)) S.1 = true then
              (if am_in (x3 + (3 : Int32)) S.1 = true then
                (if (S.2 ((x3 + (3 : Int32))).toNatClampNeg) = (0 : Int32) then
                  Option.bind (f_m_inherits N (S.2 ((x3 + (1 : Int32))).toNatClampNeg) (S.2 ((x3 + (2 : Int32))).toNatClampNeg) (0 : Int32) M) fun q85 =>
                  (if (lg_cmp q84 q85) = (0 : Int32) then
                    K18 (x3 + (6 : Int32)) M
                  else
                    some ((0 : Int32), M))
                else
                  Option.bind (f_m_inherits N (S.2 ((x3 + (1 : Int32))).toNatClampNeg) (S.2 ((x3 + (2 : Int32))).toNatClampNeg) (1 : Int32) M) fun q86 =>
                  (if (lg_cmp q84 q86) = (0 : Int32) then
                    K18 (x3 + (6 : Int32)) M
                  else
                    some ((0 : Int32), M)))
              else none)
            else none)
          else none))
      else none)
    else none)
  else none)
def f_law_796 (S : Nat × (Nat → Int32)) (N : Nat) (K18 : Int32 → Mem → Option (Int32 × Mem)) (x3 : Int32) (M : Mem) : Option (Int32 × Mem) :=
  (if am_in (x3 + (1 : Int32)) S.1 = true then
    (if am_in (x3 + (2 : Int32)) S.1 = true then
      (if (S.2 ((x3 + (2 : Int32))).toNatClampNeg) = (0 : Int32) then
        Option.bind (f_w_open N (S.2 ((x3 + (1 : Int32))).toNatClampNeg) (0 : Int32) M) fun q75 =>
        (if am_in (x3 + (1 : Int32)) S.1 = true then
          (if am_in (x3 + (2 : Int32)) S.1 = true then
            (if (S.2 ((x3 + (2 : Int32))).toNatClampNeg) = (0 : Int32) then
              Option.bind (f_m_open N (S.2 ((x3 + (1 : Int32))).toNatClampNeg) (0 : Int32) M) fun q76 =>
              (if (lg_cmp q75 q76) = (0 : Int32) then
                K18 (x3 + (6 : Int32)) M
              else
                some ((0 : Int32), M))
            else
              Option.bind (f_m_open N (S.2 ((x3 + (1 : Int32))).toNatClampNeg) (1 : Int32) M) fun q77 =>
              (if (lg_cmp q75 q77) = (0 : Int32) then
                K18 (x3 + (6 : Int32)) M
              else
                some ((0 : Int32), M)))
          else none)
        else none)
      else
        Option.bind (f_w_open N (S.2 ((x3 + (1 : Int32))).toNatClampNeg) (1 : Int32) M) fun q78 =>
        (if am_in (x3 + (1 : Int32)) S.1 = true then
          (if am_in (x3 + (2 : Int32)) S.1 = true then
            (if (S.2 ((x3 + (2 : Int32))).toNatClampNeg) = (0 : Int32) then
              Option.bind (f_m_open N (S.2 ((x3 + (1 : Int32))).toNatClampNeg) (0 : Int32) M) fun q79 =>
              (if (lg_cmp q78 q79) = (0 : Int32) then
                K18 (x3 + (6 : Int32)) M
              else
                some ((0 : Int32), M))
            else
              Option.bind (f_m_open N (S.2 ((x3 + (1 : Int32))).toNatClampNeg) (1 : Int32) M) fun q80 =>
              (if (lg_cmp q78 q80) = (0 : Int32) then
                K18 (x3 + (6 : Int32)) M
              else
                some ((0 : Int32), M)))
          else none)
        else none))
    else none)
  else none)
def f_law_846 (S : Nat × (Nat → Int32)) (N : Nat) (K18 : Int32 → Mem → Option (Int32 × Mem)) (x3 : Int32) (M : Mem) : Option (Int32 × Mem) :=
  (if am_in (x3 + (1 : Int32)) S.1 = true then
    (if am_in (x3 + (2 : Int32)) S.1 = true then
      (if am_in (x3 + (3 : Int32)) S.1 = true then
        (if am_in (x3 + (4 : Int32)) S.1 = true then
          (if (S.2 ((x3 + (4 : Int32))).toNatClampNeg) = (0 : Int32) then
            Option.bind (f_w_thatNight N (S.2 ((x3 + (1 : Int32))).toNatClampNeg) (S.2 ((x3 + (2 : Int32))).toNatClampNeg) (S.2 ((x3 + (3 : Int32))).toNatClampNeg) (0 : Int32) M) fun q69 =>
            (if am_in (x3 + (1 : Int32)) S.1 = true then
              (if am_in (x3 + (2 : Int32)) S.1 = true then
                (if am_in (x3 + (3 : Int32)) S.1 = true then
                  (if am_in (x3 + (4 : Int32)) S.1 = true then
                    (if (S.2 ((x3 + (4 : Int32))).toNatClampNeg) = (0 : Int32) then
                      Option.bind (f_m_thatNight N (S.2 ((x3 + (1 : Int32))).toNatClampNeg) (S.2 ((x3 + (2 : Int32))).toNatClampNeg) (S.2 ((x3 + (3 : Int32))).toNatClampNeg) (0 : Int32) M) fun q70 =>
                      (if (lg_cmp q69 q70) = (0 : Int32) then
                        K18 (x3 + (6 : Int32)) M
                      else
                        some ((0 : Int32), M))
                    else
                      Option.bind (f_m_thatNight N (S.2 ((x3 + (1 : Int32))).toNatClampNeg) (S.2 ((x3 + (2 : Int32))).toNatClampNeg) (S.2 ((x3 + (3 : Int32))).toNatClampNeg) (1 : Int32) M) fun q71 =>
                      (if (lg_cmp q69 q71) = (0 : Int32) then
                        K18 (x3 + (6 : Int32)) M
                      else
                        some ((0 : Int32), M)))
                  else none)
                else none)
              else none)
            else none)
          else
            Option.bind (f_w_thatNight N (S.2 ((x3 + (1 : Int32))).toNatClampNeg) (S.2 ((x3 + (2 : Int32))).toNatClampNeg) (S.2 ((x3 + (3 : Int32))).toNatClampNeg) (1 : Int32) M) fun q72 =>
            (if am_in (x3 + (1 : Int32)) S.1 = true then
              (if am_in (x3 + (2 : Int32)) S.1 = true then
                (if am_in (x3 + (3 : Int32)) S.1 = true then
                  (if am_in (x3 + (4 : Int32)) S.1 = true then
                    (if (S.2 ((x3 + (4 : Int32))).toNatClampNeg) = (0 : Int32) then
                      Option.bind (f_m_thatNight N (S.2 ((x3 + (1 : Int32))).toNatClampNeg) (S.2 ((x3 + (2 : Int32))).toNatClampNeg) (S.2 ((x3 + (3 : Int32))).toNatClampNeg) (0 : Int32) M) fun q73 =>
                      (if (lg_cmp q72 q73) = (0 : Int32) then
                        K18 (x3 + (6 : Int32)) M
                      else
                        some ((0 : Int32), M))
                    else
                      Option.bind (f_m_thatNight N (S.2 ((x3 + (1 : Int32))).toNatClampNeg) (S.2 ((x3 + (2 : Int32))).toNatClampNeg) (S.2 ((x3 + (3 : Int32))).toNatClampNeg) (1 : Int32) M) fun q74 =>
                      (if (lg_cmp q72 q74) = (0 : Int32) then
                        K18 (x3 + (6 : Int32)) M
                      else
                        some ((0 : Int32), M)))
                  else none)
                else none)
              else none)
            else none))
        else none)
      else none)
    else none)
  else none)
def f_law_916 (S : Nat × (Nat → Int32)) (N : Nat) (K18 : Int32 → Mem → Option (Int32 × Mem)) (x3 : Int32) (M : Mem) : Option (Int32 × Mem) :=
  (if am_in (x3 + (1 : Int32)) S.1 = true then
    (if am_in (x3 + (2 : Int32)) S.1 = true then
      (if (S.2 ((x3 + (2 : Int32))).toNatClampNeg) = (0 : Int32) then
        Option.bind (f_w_tally N (S.2 ((x3 + (1 : Int32))).toNatClampNeg) (0 : Int32) M) fun q63 =>
        (if am_in (x3 + (1 : Int32)) S.1 = true then
          (if am_in (x3 + (2 : Int32)) S.1 = true then
            (if (S.2 ((x3 + (2 : Int32))).toNatClampNeg) = (0 : Int32) then
              Option.bind (f_m_tally N (S.2 ((x3 + (1 : Int32))).toNatClampNeg) (0 : Int32) M) fun q64 =>
              (if q63 = q64 then
                K18 (x3 + (6 : Int32)) M
              else
                some ((0 : Int32), M))
            else
              Option.bind (f_m_tally N (S.2 ((x3 + (1 : Int32))).toNatClampNeg) (1 : Int32) M) fun q65 =>
              (if q63 = q65 then
                K18 (x3 + (6 : Int32)) M
              else
                some ((0 : Int32), M)))
          else none)
        else none)
      else
        Option.bind (f_w_tally N (S.2 ((x3 + (1 : Int32))).toNatClampNeg) (1 : Int32) M) fun q66 =>
        (if am_in (x3 + (1 : Int32)) S.1 = true then
          (if am_in (x3 + (2 : Int32)) S.1 = true then
            (if (S.2 ((x3 + (2 : Int32))).toNatClampNeg) = (0 : Int32) then
              Option.bind (f_m_tally N (S.2 ((x3 + (1 : Int32))).toNatClampNeg) (0 : Int32) M) fun q67 =>
              (if q66 = q67 then
                K18 (x3 + (6 : Int32)) M
              else
                some ((0 : Int32), M))
            else
              Option.bind (f_m_tally N (S.2 ((x3 + (1 : Int32))).toNatClampNeg) (1 : Int32) M) fun q68 =>
              (if q66 = q68 then
                K18 (x3 + (6 : Int32)) M
              else
                some ((0 : Int32), M)))
          else none)
        else none))
    else none)
  else none)
def f_law_965 (S : Nat × (Nat → Int32)) (N : Nat) (K18 : Int32 → Mem → Option (Int32 × Mem)) (x3 : Int32) (M : Mem) : Option (Int32 × Mem) :=
  (if am_in (x3 + (1 : Int32)) S.1 = true then
    (if (S.2 ((x3 + (1 : Int32))).toNatClampNeg) = (0 : Int32) then
      Option.bind (f_w_longest N (0 : Int32) M) fun q57 =>
      (if am_in (x3 + (1 : Int32)) S.1 = true then
        (if (S.2 ((x3 + (1 : Int32))).toNatClampNeg) = (0 : Int32) then
          Option.bind (f_m_longest N (0 : Int32) M) fun q58 =>
          (if q57 = q58 then
            K18 (x3 + (6 : Int32)) M
          else
            some ((0 : Int32), M))
        else
          Option.bind (f_m_longest N (1 : Int32) M) fun q59 =>
          (if q57 = q59 then
            K18 (x3 + (6 : Int32)) M
          else
            some ((0 : Int32), M)))
      else none)
    else
      Option.bind (f_w_longest N (1 : Int32) M) fun q60 =>
      (if am_in (x3 + (1 : Int32)) S.1 = true then
        (if (S.2 ((x3 + (1 : Int32))).toNatClampNeg) = (0 : Int32) then
          Option.bind (f_m_longest N (0 : Int32) M) fun q61 =>
          (if q60 = q61 then
            K18 (x3 + (6 : Int32)) M
          else
            some ((0 : Int32), M))
        else
          Option.bind (f_m_longest N (1 : Int32) M) fun q62 =>
          (if q60 = q62 then
            K18 (x3 + (6 : Int32)) M
          else
            some ((0 : Int32), M)))
      else none))
  else none)
def f_law_1004 (S : Nat × (Nat → Int32)) (N : Nat) (K18 : Int32 → Mem → Option (Int32 × Mem)) (x3 : Int32) (M : Mem) : Option (Int32 × Mem) :=
  (if am_in (x3 + (1 : Int32)) S.1 = true then
    Option.bind (f_w_which N (S.2 ((x3 + (1 : Int32))).toNatClampNeg) M) fun q55 =>
    (if am_in (x3 + (1 : Int32)) S.1 = true then
      Option.bind (f_m_which N (S.2 ((x3 + (1 : Int32))).toNatClampNeg) M) fun q56 =>
      (if q55 = q56 then
        K18 (x3 + (6 : Int32)) M
      else
        some ((0 : Int32), M))
    else none)
  else none)
def f_law_1027 (S : Nat × (Nat → Int32)) (N : Nat) (K18 : Int32 → Mem → Option (Int32 × Mem)) (x3 : Int32) (M : Mem) : Option (Int32 × Mem) :=
  (if am_in (x3 + (1 : Int32)) S.1 = true then
    (if am_in (x3 + (2 : Int32)) S.1 = true then
      Option.bind (f_w_whispered N (S.2 ((x3 + (1 : Int32))).toNatClampNeg) (S.2 ((x3 + (2 : Int32))).toNatClampNeg) M) fun q53 =>
      (if am_in (x3 + (1 : Int32)) S.1 = true then
        (if am_in (x3 + (2 : Int32)) S.1 = true then
          Option.bind (f_m_whispered N (S.2 ((x3 + (1 : Int32))).toNatClampNeg) (S.2 ((x3 + (2 : Int32))).toNatClampNeg) M) fun q54 =>
          (if q53 = q54.1 then
            K18 (x3 + (6 : Int32)) q54.2
          else
            some ((0 : Int32), q54.2))
        else none)
      else none)
    else none)
  else none)
def f_law_1060 (S : Nat × (Nat → Int32)) (N : Nat) (K18 : Int32 → Mem → Option (Int32 × Mem)) (x3 : Int32) (M : Mem) : Option (Int32 × Mem) :=
  (if am_in (x3 + (1 : Int32)) S.1 = true then
    (if am_in (x3 + (2 : Int32)) S.1 = true then
      (if am_in (x3 + (3 : Int32)) S.1 = true then
        (if am_in (x3 + (4 : Int32)) S.1 = true then
          Option.bind (f_w_twoWhispered N (S.2 ((x3 + (1 : Int32))).toNatClampNeg) (S.2 ((x3 + (2 : Int32))).toNatClampNeg) (S.2 ((x3 + (3 : Int32))).toNatClampNeg) (S.2 ((x3 + (4 : Int32))).toNatClampNeg) M) fun q51 =>
          (if am_in (x3 + (1 : Int32)) S.1 = true then
            (if am_in (x3 + (2 : Int32)) S.1 = true then
              (if am_in (x3 + (3 : Int32)) S.1 = true then
                (if am_in (x3 + (4 : Int32)) S.1 = true then
                  Option.bind (f_m_twoWhispered N (S.2 ((x3 + (1 : Int32))).toNatClampNeg) (S.2 ((x3 + (2 : Int32))).toNatClampNeg) (S.2 ((x3 + (3 : Int32))).toNatClampNeg) (S.2 ((x3 + (4 : Int32))).toNatClampNeg) M) fun q52 =>
                  (if q51 = q52.1 then
                    K18 (x3 + (6 : Int32)) q52.2
                  else
                    some ((0 : Int32), q52.2))
                else none)
              else none)
            else none)
          else none)
        else none)
      else none)
    else none)
  else none)
def f_law_1113 (S : Nat × (Nat → Int32)) (N : Nat) (K18 : Int32 → Mem → Option (Int32 × Mem)) (x3 : Int32) (M : Mem) : Option (Int32 × Mem) :=
  (if am_in (x3 + (1 : Int32)) S.1 = true then
    Option.bind (f_w_ifAsked N (S.2 ((x3 + (1 : Int32))).toNatClampNeg) M) fun q49 =>
    (if am_in (x3 + (1 : Int32)) S.1 = true then
      Option.bind (f_m_ifAsked N (S.2 ((x3 + (1 : Int32))).toNatClampNeg) M) fun q50 =>
      (if q49 = q50.1 then
        K18 (x3 + (6 : Int32)) q50.2
      else
        some ((0 : Int32), q50.2))
    else none)
  else none)
def f_law_1136 (S : Nat × (Nat → Int32)) (N : Nat) (K18 : Int32 → Mem → Option (Int32 × Mem)) (x3 : Int32) (M : Mem) : Option (Int32 × Mem) :=
  Option.bind (f_w_silence N M) fun q47 =>
  Option.bind (f_m_silence N M) fun q48 =>
  (if q47 = q48.1 then
    K18 (x3 + (6 : Int32)) q48.2
  else
    some ((0 : Int32), q48.2))
def f_law_1149 (S : Nat × (Nat → Int32)) (N : Nat) (K18 : Int32 → Mem → Option (Int32 × Mem)) (x3 : Int32) (M : Mem) : Option (Int32 × Mem) :=
  (if am_in (x3 + (1 : Int32)) S.1 = true then
    Option.bind (f_w_byRank N (S.2 ((x3 + (1 : Int32))).toNatClampNeg) M) fun q45 =>
    (if am_in (x3 + (1 : Int32)) S.1 = true then
      Option.bind (f_m_byRank N (S.2 ((x3 + (1 : Int32))).toNatClampNeg) M) fun q46 =>
      (if q45 = q46 then
        K18 (x3 + (6 : Int32)) M
      else
        some ((0 : Int32), M))
    else none)
  else none)
def f_law_1172 (S : Nat × (Nat → Int32)) (N : Nat) (K18 : Int32 → Mem → Option (Int32 × Mem)) (x3 : Int32) (M : Mem) : Option (Int32 × Mem) :=
  (if am_in (x3 + (1 : Int32)) S.1 = true then
    (if am_in (x3 + (2 : Int32)) S.1 = true then
      Option.bind (f_w_told N (S.2 ((x3 + (1 : Int32))).toNatClampNeg) (S.2 ((x3 + (2 : Int32))).toNatClampNeg) M) fun q43 =>
      (if am_in (x3 + (1 : Int32)) S.1 = true then
        (if am_in (x3 + (2 : Int32)) S.1 = true then
          Option.bind (f_m_told N (S.2 ((x3 + (1 : Int32))).toNatClampNeg) (S.2 ((x3 + (2 : Int32))).toNatClampNeg) M) fun q44 =>
          (if q43 = q44 then
            K18 (x3 + (6 : Int32)) M
          else
            some ((0 : Int32), M))
        else none)
      else none)
    else none)
  else none)
def f_law_1205 (S : Nat × (Nat → Int32)) (N : Nat) (K18 : Int32 → Mem → Option (Int32 × Mem)) (x3 : Int32) (M : Mem) : Option (Int32 × Mem) :=
  (if am_in (x3 + (1 : Int32)) S.1 = true then
    (if (S.2 ((x3 + (1 : Int32))).toNatClampNeg) = (0 : Int32) then
      Option.bind (f_w_meanDies N (0 : Int32) M) fun q37 =>
      (if am_in (x3 + (1 : Int32)) S.1 = true then
        (if (S.2 ((x3 + (1 : Int32))).toNatClampNeg) = (0 : Int32) then
          Option.bind (f_m_meanDies N (0 : Int32) M) fun q38 =>
          (if q37 = q38 then
            K18 (x3 + (6 : Int32)) M
          else
            some ((0 : Int32), M))
        else
          Option.bind (f_m_meanDies N (1 : Int32) M) fun q39 =>
          (if q37 = q39 then
            K18 (x3 + (6 : Int32)) M
          else
            some ((0 : Int32), M)))
      else none)
    else
      Option.bind (f_w_meanDies N (1 : Int32) M) fun q40 =>
      (if am_in (x3 + (1 : Int32)) S.1 = true then
        (if (S.2 ((x3 + (1 : Int32))).toNatClampNeg) = (0 : Int32) then
          Option.bind (f_m_meanDies N (0 : Int32) M) fun q41 =>
          (if q40 = q41 then
            K18 (x3 + (6 : Int32)) M
          else
            some ((0 : Int32), M))
        else
          Option.bind (f_m_meanDies N (1 : Int32) M) fun q42 =>
          (if q40 = q42 then
            K18 (x3 + (6 : Int32)) M
          else
            some ((0 : Int32), M)))
      else none))
  else none)
def f_law_1244 (S : Nat × (Nat → Int32)) (N : Nat) (K18 : Int32 → Mem → Option (Int32 × Mem)) (x3 : Int32) (M : Mem) : Option (Int32 × Mem) :=
  (if am_in (x3 + (1 : Int32)) S.1 = true then
    Option.bind (f_w_held N (S.2 ((x3 + (1 : Int32))).toNatClampNeg) M) fun q35 =>
    (if am_in (x3 + (1 : Int32)) S.1 = true then
      Option.bind (f_m_held N (S.2 ((x3 + (1 : Int32))).toNatClampNeg) q35.2) fun q36 =>
      (if q35.1 = q36.1 then
        K18 (x3 + (6 : Int32)) q36.2
      else
        some ((0 : Int32), q36.2))
    else none)
  else none)
def f_law_1267 (S : Nat × (Nat → Int32)) (N : Nat) (K18 : Int32 → Mem → Option (Int32 × Mem)) (x3 : Int32) (M : Mem) : Option (Int32 × Mem) :=
  (if am_in (x3 + (1 : Int32)) S.1 = true then
    Option.bind (f_w_stays N (S.2 ((x3 + (1 : Int32))).toNatClampNeg) M) fun q33 =>
    (if am_in (x3 + (1 : Int32)) S.1 = true then
      Option.bind (f_m_stays N (S.2 ((x3 + (1 : Int32))).toNatClampNeg) M) fun q34 =>
      (if q33 = q34 then
        K18 (x3 + (6 : Int32)) M
      else
        some ((0 : Int32), M))
    else none)
  else none)
def f_law_1290 (S : Nat × (Nat → Int32)) (N : Nat) (K18 : Int32 → Mem → Option (Int32 × Mem)) (x3 : Int32) (M : Mem) : Option (Int32 × Mem) :=
  (if am_in (x3 + (1 : Int32)) S.1 = true then
    (if am_in (x3 + (2 : Int32)) S.1 = true then
      Option.bind (f_w_round N (S.2 ((x3 + (1 : Int32))).toNatClampNeg) (S.2 ((x3 + (2 : Int32))).toNatClampNeg) M) fun q31 =>
      (if am_in (x3 + (1 : Int32)) S.1 = true then
        (if am_in (x3 + (2 : Int32)) S.1 = true then
          Option.bind (f_m_round N (S.2 ((x3 + (1 : Int32))).toNatClampNeg) (S.2 ((x3 + (2 : Int32))).toNatClampNeg) q31.2) fun q32 =>
          (if q31.1 = q32.1 then
            K18 (x3 + (6 : Int32)) q32.2
          else
            some ((0 : Int32), q32.2))
        else none)
      else none)
    else none)
  else none)
def f_law_1323 (S : Nat × (Nat → Int32)) (N : Nat) (K18 : Int32 → Mem → Option (Int32 × Mem)) (x3 : Int32) (M : Mem) : Option (Int32 × Mem) :=
  (if am_in (x3 + (1 : Int32)) S.1 = true then
    (if am_in (x3 + (2 : Int32)) S.1 = true then
      Option.bind (f_w_provoked N (S.2 ((x3 + (1 : Int32))).toNatClampNeg) (S.2 ((x3 + (2 : Int32))).toNatClampNeg) M) fun q29 =>
      (if am_in (x3 + (1 : Int32)) S.1 = true then
        (if am_in (x3 + (2 : Int32)) S.1 = true then
          Option.bind (f_m_provoked N (S.2 ((x3 + (1 : Int32))).toNatClampNeg) (S.2 ((x3 + (2 : Int32))).toNatClampNeg) M) fun q30 =>
          (if q29 = q30.1 then
            K18 (x3 + (6 : Int32)) q30.2
          else
            some ((0 : Int32), q30.2))
        else none)
      else none)
    else none)
  else none)
def f_law_1356 (S : Nat × (Nat → Int32)) (N : Nat) (K18 : Int32 → Mem → Option (Int32 × Mem)) (x3 : Int32) (M : Mem) : Option (Int32 × Mem) :=
  (if am_in (x3 + (1 : Int32)) S.1 = true then
    Option.bind (f_w_unsaid N (S.2 ((x3 + (1 : Int32))).toNatClampNeg) M) fun q27 =>
    (if am_in (x3 + (1 : Int32)) S.1 = true then
      Option.bind (f_m_unsaid N (S.2 ((x3 + (1 : Int32))).toNatClampNeg) M) fun q28 =>
      (if q27 = q28 then
        K18 (x3 + (6 : Int32)) M
      else
        some ((0 : Int32), M))
    else none)
  else none)
def f_law_1379 (S : Nat × (Nat → Int32)) (N : Nat) (K18 : Int32 → Mem → Option (Int32 × Mem)) (x3 : Int32) (M : Mem) : Option (Int32 × Mem) :=
  Option.bind (f_w_nextToast N M) fun q25 =>
  Option.bind (f_m_nextToast N q25.2) fun q26 =>
  (if q25.1 = q26.1 then
    K18 (x3 + (6 : Int32)) q26.2
  else
    some ((0 : Int32), q26.2))
def f_law_1392 (S : Nat × (Nat → Int32)) (N : Nat) (K18 : Int32 → Mem → Option (Int32 × Mem)) (x3 : Int32) (M : Mem) : Option (Int32 × Mem) :=
  (if am_in (x3 + (1 : Int32)) S.1 = true then
    (if am_in (x3 + (2 : Int32)) S.1 = true then
      (if am_in (x3 + (3 : Int32)) S.1 = true then
        Option.bind (f_w_odds (S.2 ((x3 + (1 : Int32))).toNatClampNeg) (S.2 ((x3 + (2 : Int32))).toNatClampNeg) (S.2 ((x3 + (3 : Int32))).toNatClampNeg) M) fun q23 =>
        (if am_in (x3 + (1 : Int32)) S.1 = true then
          (if am_in (x3 + (2 : Int32)) S.1 = true then
            (if am_in (x3 + (3 : Int32)) S.1 = true then
              Option.bind (f_m_odds (S.2 ((x3 + (1 : Int32))).toNatClampNeg) (S.2 ((x3 + (2 : Int32))).toNatClampNeg) (S.2 ((x3 + (3 : Int32))).toNatClampNeg) q23.2) fun q24 =>
              (if q23.1 = q24.1 then
                K18 (x3 + (6 : Int32)) q24.2
              else
                some ((0 : Int32), q24.2))
            else none)
          else none)
        else none)
      else none)
    else none)
  else none)
def f_law_1435 (S : Nat × (Nat → Int32)) (N : Nat) (K18 : Int32 → Mem → Option (Int32 × Mem)) (x3 : Int32) (M : Mem) : Option (Int32 × Mem) :=
  (if am_in (x3 + (1 : Int32)) S.1 = true then
    (if am_in (x3 + (2 : Int32)) S.1 = true then
      Option.bind (f_w_falls (S.2 ((x3 + (1 : Int32))).toNatClampNeg) (S.2 ((x3 + (2 : Int32))).toNatClampNeg) M) fun q21 =>
      (if am_in (x3 + (1 : Int32)) S.1 = true then
        (if am_in (x3 + (2 : Int32)) S.1 = true then
          Option.bind (f_m_falls (S.2 ((x3 + (1 : Int32))).toNatClampNeg) (S.2 ((x3 + (2 : Int32))).toNatClampNeg) q21.2) fun q22 =>
          (if q21.1 = q22.1 then
            K18 (x3 + (6 : Int32)) q22.2
          else
            some ((0 : Int32), q22.2))
        else none)
      else none)
    else none)
  else none)
def f_law_1468 (S : Nat × (Nat → Int32)) (N : Nat) (K18 : Int32 → Mem → Option (Int32 × Mem)) (x3 : Int32) (M : Mem) : Option (Int32 × Mem) :=
  (if am_in (x3 + (1 : Int32)) S.1 = true then
    (if am_in (x3 + (2 : Int32)) S.1 = true then
      (if am_in (x3 + (3 : Int32)) S.1 = true then
        (if am_in (x3 + (4 : Int32)) S.1 = true then
          Option.bind (f_w_when N (S.2 ((x3 + (1 : Int32))).toNatClampNeg) (S.2 ((x3 + (2 : Int32))).toNatClampNeg) (S.2 ((x3 + (3 : Int32))).toNatClampNeg) (S.2 ((x3 + (4 : Int32))).toNatClampNeg) M) fun q19 =>
          (if am_in (x3 + (1 : Int32)) S.1 = true then
            (if am_in (x3 + (2 : Int32)) S.1 = true then
              (if am_in (x3 + (3 : Int32)) S.1 = true then
                (if am_in (x3 + (4 : Int32)) S.1 = true then
                  Option.bind (f_m_when N (S.2 ((x3 + (1 : Int32))).toNatClampNeg) (S.2 ((x3 + (2 : Int32))).toNatClampNeg) (S.2 ((x3 + (3 : Int32))).toNatClampNeg) (S.2 ((x3 + (4 : Int32))).toNatClampNeg) q19.2) fun q20 =>
                  (if (lg_cmp q19.1 q20.1) = (0 : Int32) then
                    K18 (x3 + (6 : Int32)) q20.2
                  else
                    some ((0 : Int32), q20.2))
                else none)
              else none)
            else none)
          else none)
        else none)
      else none)
    else none)
  else none)
def f_law_1522 (S : Nat × (Nat → Int32)) (N : Nat) (K18 : Int32 → Mem → Option (Int32 × Mem)) (x3 : Int32) (M : Mem) : Option (Int32 × Mem) :=
  (if am_in (x3 + (1 : Int32)) S.1 = true then
    (if am_in (x3 + (2 : Int32)) S.1 = true then
      (if am_in (x3 + (3 : Int32)) S.1 = true then
        (if am_in (x3 + (4 : Int32)) S.1 = true then
          (if am_in (x3 + (5 : Int32)) S.1 = true then
            Option.bind (f_w_words N (S.2 ((x3 + (1 : Int32))).toNatClampNeg) (S.2 ((x3 + (2 : Int32))).toNatClampNeg) (S.2 ((x3 + (3 : Int32))).toNatClampNeg) (S.2 ((x3 + (4 : Int32))).toNatClampNeg) (S.2 ((x3 + (5 : Int32))).toNatClampNeg) M) fun q17 =>
            (if am_in (x3 + (1 : Int32)) S.1 = true then
              (if am_in (x3 + (2 : Int32)) S.1 = true then
                (if am_in (x3 + (3 : Int32)) S.1 = true then
                  (if am_in (x3 + (4 : Int32)) S.1 = true then
                    (if am_in (x3 + (5 : Int32)) S.1 = true then
                      Option.bind (f_m_words N (S.2 ((x3 + (1 : Int32))).toNatClampNeg) (S.2 ((x3 + (2 : Int32))).toNatClampNeg) (S.2 ((x3 + (3 : Int32))).toNatClampNeg) (S.2 ((x3 + (4 : Int32))).toNatClampNeg) (S.2 ((x3 + (5 : Int32))).toNatClampNeg) q17.2) fun q18 =>
                      (if (lg_cmp q17.1 q18.1) = (0 : Int32) then
                        K18 (x3 + (6 : Int32)) q18.2
                      else
                        some ((0 : Int32), q18.2))
                    else none)
                  else none)
                else none)
              else none)
            else none)
          else none)
        else none)
      else none)
    else none)
  else none)
def f_law_1586 (S : Nat × (Nat → Int32)) (N : Nat) (K18 : Int32 → Mem → Option (Int32 × Mem)) (x3 : Int32) (M : Mem) : Option (Int32 × Mem) :=
  (if am_in (x3 + (1 : Int32)) S.1 = true then
    (if am_in (x3 + (2 : Int32)) S.1 = true then
      (if am_in (x3 + (3 : Int32)) S.1 = true then
        (if am_in (x3 + (4 : Int32)) S.1 = true then
          Option.bind (f_w_fewest N (S.2 ((x3 + (1 : Int32))).toNatClampNeg) (S.2 ((x3 + (2 : Int32))).toNatClampNeg) (S.2 ((x3 + (3 : Int32))).toNatClampNeg) (S.2 ((x3 + (4 : Int32))).toNatClampNeg) M) fun q15 =>
          (if am_in (x3 + (1 : Int32)) S.1 = true then
            (if am_in (x3 + (2 : Int32)) S.1 = true then
              (if am_in (x3 + (3 : Int32)) S.1 = true then
                (if am_in (x3 + (4 : Int32)) S.1 = true then
                  Option.bind (f_m_fewest N (S.2 ((x3 + (1 : Int32))).toNatClampNeg) (S.2 ((x3 + (2 : Int32))).toNatClampNeg) (S.2 ((x3 + (3 : Int32))).toNatClampNeg) (S.2 ((x3 + (4 : Int32))).toNatClampNeg) q15.2) fun q16 =>
                  (if q15.1 = q16.1 then
                    K18 (x3 + (6 : Int32)) q16.2
                  else
                    some ((0 : Int32), q16.2))
                else none)
              else none)
            else none)
          else none)
        else none)
      else none)
    else none)
  else none)
def f_law_1639 (S : Nat × (Nat → Int32)) (N : Nat) (K18 : Int32 → Mem → Option (Int32 × Mem)) (x3 : Int32) (M : Mem) : Option (Int32 × Mem) :=
  (if am_in (x3 + (1 : Int32)) S.1 = true then
    (if am_in (x3 + (2 : Int32)) S.1 = true then
      Option.bind (f_w_game N (S.2 ((x3 + (1 : Int32))).toNatClampNeg) (S.2 ((x3 + (2 : Int32))).toNatClampNeg) M) fun q13 =>
      (if am_in (x3 + (1 : Int32)) S.1 = true then
        (if am_in (x3 + (2 : Int32)) S.1 = true then
          Option.bind (f_m_game N (S.2 ((x3 + (1 : Int32))).toNatClampNeg) (S.2 ((x3 + (2 : Int32))).toNatClampNeg) q13.2) fun q14 =>
          (if (lg_cmp q13.1 q14.1) = (0 : Int32) then
            K18 (x3 + (6 : Int32)) q14.2
          else
            some ((0 : Int32), q14.2))
        else none)
      else none)
    else none)
  else none)
def f_law_1673 (S : Nat × (Nat → Int32)) (N : Nat) (K18 : Int32 → Mem → Option (Int32 × Mem)) (x3 : Int32) (M : Mem) : Option (Int32 × Mem) :=
  (if am_in (x3 + (1 : Int32)) S.1 = true then
    (if am_in (x3 + (2 : Int32)) S.1 = true then
      (if am_in (x3 + (3 : Int32)) S.1 = true then
        (if am_in (x3 + (4 : Int32)) S.1 = true then
          (if (S.2 ((x3 + (4 : Int32))).toNatClampNeg) = (0 : Int32) then
            Option.bind (f_w_cough N (S.2 ((x3 + (1 : Int32))).toNatClampNeg) (S.2 ((x3 + (2 : Int32))).toNatClampNeg) (S.2 ((x3 + (3 : Int32))).toNatClampNeg) (0 : Int32) M) fun q7 =>
            (if am_in (x3 + (1 : Int32)) S.1 = true then
              (if am_in (x3 + (2 : Int32)) S.1 = true then
                (if am_in (x3 + (3 : Int32)) S.1 = true then
                  (if am_in (x3 + (4 : Int32)) S.1 = true then
                    (if (S.2 ((x3 + (4 : Int32))).toNatClampNeg) = (0 : Int32) then
                      Option.bind (f_m_cough N (S.2 ((x3 + (1 : Int32))).toNatClampNeg) (S.2 ((x3 + (2 : Int32))).toNatClampNeg) (S.2 ((x3 + (3 : Int32))).toNatClampNeg) (0 : Int32) q7.2) fun q8 =>
                      (if (lg_cmp q7.1 q8.1) = (0 : Int32) then
                        K18 (x3 + (6 : Int32)) q8.2
                      else
                        some ((0 : Int32), q8.2))
                    else
                      Option.bind (f_m_cough N (S.2 ((x3 + (1 : Int32))).toNatClampNeg) (S.2 ((x3 + (2 : Int32))).toNatClampNeg) (S.2 ((x3 + (3 : Int32))).toNatClampNeg) (1 : Int32) q7.2) fun q9 =>
                      (if (lg_cmp q7.1 q9.1) = (0 : Int32) then
                        K18 (x3 + (6 : Int32)) q9.2
                      else
                        some ((0 : Int32), q9.2)))
                  else none)
                else none)
              else none)
            else none)
          else
            Option.bind (f_w_cough N (S.2 ((x3 + (1 : Int32))).toNatClampNeg) (S.2 ((x3 + (2 : Int32))).toNatClampNeg) (S.2 ((x3 + (3 : Int32))).toNatClampNeg) (1 : Int32) M) fun q10 =>
            (if am_in (x3 + (1 : Int32)) S.1 = true then
              (if am_in (x3 + (2 : Int32)) S.1 = true then
                (if am_in (x3 + (3 : Int32)) S.1 = true then
                  (if am_in (x3 + (4 : Int32)) S.1 = true then
                    (if (S.2 ((x3 + (4 : Int32))).toNatClampNeg) = (0 : Int32) then
                      Option.bind (f_m_cough N (S.2 ((x3 + (1 : Int32))).toNatClampNeg) (S.2 ((x3 + (2 : Int32))).toNatClampNeg) (S.2 ((x3 + (3 : Int32))).toNatClampNeg) (0 : Int32) q10.2) fun q11 =>
                      (if (lg_cmp q10.1 q11.1) = (0 : Int32) then
                        K18 (x3 + (6 : Int32)) q11.2
                      else
                        some ((0 : Int32), q11.2))
                    else
                      Option.bind (f_m_cough N (S.2 ((x3 + (1 : Int32))).toNatClampNeg) (S.2 ((x3 + (2 : Int32))).toNatClampNeg) (S.2 ((x3 + (3 : Int32))).toNatClampNeg) (1 : Int32) q10.2) fun q12 =>
                      (if (lg_cmp q10.1 q12.1) = (0 : Int32) then
                        K18 (x3 + (6 : Int32)) q12.2
                      else
                        some ((0 : Int32), q12.2)))
                  else none)
                else none)
              else none)
            else none))
        else none)
      else none)
    else none)
  else none)
def f_law_1743 (S : Nat × (Nat → Int32)) (N : Nat) (K18 : Int32 → Mem → Option (Int32 × Mem)) (x3 : Int32) (M : Mem) : Option (Int32 × Mem) :=
  Option.bind (f_w_image N M) fun q5 =>
  Option.bind (f_m_image N q5.2) fun q6 =>
  (if q5.1 = q6.1 then
    K18 (x3 + (6 : Int32)) q6.2
  else
    some ((0 : Int32), q6.2))
def f_law_1756 (S : Nat × (Nat → Int32)) (N : Nat) (K18 : Int32 → Mem → Option (Int32 × Mem)) (x3 : Int32) (M : Mem) : Option (Int32 × Mem) :=
  Option.bind (f_w_back N M) fun q3 =>
  Option.bind (f_m_back N q3.2) fun q4 =>
  (if q3.1 = q4.1 then
    K18 (x3 + (6 : Int32)) q4.2
  else
    some ((0 : Int32), q4.2))
def f_law_1769 (S : Nat × (Nat → Int32)) (N : Nat) (K18 : Int32 → Mem → Option (Int32 × Mem)) (x3 : Int32) (M : Mem) : Option (Int32 × Mem) :=
  (if am_in (x3 + (1 : Int32)) S.1 = true then
    Option.bind (f_w_about N (S.2 ((x3 + (1 : Int32))).toNatClampNeg) M) fun q1 =>
    (if am_in (x3 + (1 : Int32)) S.1 = true then
      Option.bind (f_m_about N (S.2 ((x3 + (1 : Int32))).toNatClampNeg) M) fun q2 =>
      (if q1 = q2 then
        K18 (x3 + (6 : Int32)) M
      else
        some ((0 : Int32), M))
    else none)
  else none)
def f_law_18 (S : Nat × (Nat → Int32)) (N : Nat) : Nat → Int32 → Mem → Option (Int32 × Mem)
  | 0, _, _ => none
  | n + 1, x3, M =>
    (if ((Int32.ofNat S.1) - (6 : Int32)) < x3 then
      some ((1 : Int32), M)
    else
      (if am_in x3 S.1 = true then
        (if ((S.2 (x3).toNatClampNeg) &&& (63 : Int32)) = (0 : Int32) then
          f_law_236 S N (f_law_18 S N n) x3 M
        else (if ((S.2 (x3).toNatClampNeg) &&& (63 : Int32)) = (1 : Int32) then
          f_law_279 S N (f_law_18 S N n) x3 M
        else (if ((S.2 (x3).toNatClampNeg) &&& (63 : Int32)) = (2 : Int32) then
          f_law_342 S N (f_law_18 S N n) x3 M
        else (if ((S.2 (x3).toNatClampNeg) &&& (63 : Int32)) = (3 : Int32) then
          f_law_365 S N (f_law_18 S N n) x3 M
        else (if ((S.2 (x3).toNatClampNeg) &&& (63 : Int32)) = (4 : Int32) then
          f_law_378 S N (f_law_18 S N n) x3 M
        else (if ((S.2 (x3).toNatClampNeg) &&& (63 : Int32)) = (5 : Int32) then
          f_law_401 S N (f_law_18 S N n) x3 M
        else (if ((S.2 (x3).toNatClampNeg) &&& (63 : Int32)) = (6 : Int32) then
          f_law_424 S N (f_law_18 S N n) x3 M
        else (if ((S.2 (x3).toNatClampNeg) &&& (63 : Int32)) = (7 : Int32) then
          f_law_457 S N (f_law_18 S N n) x3 M
        else (if ((S.2 (x3).toNatClampNeg) &&& (63 : Int32)) = (8 : Int32) then
          f_law_470 S N (f_law_18 S N n) x3 M
        else (if ((S.2 (x3).toNatClampNeg) &&& (63 : Int32)) = (9 : Int32) then
          f_law_493 S N (f_law_18 S N n) x3 M
        else (if ((S.2 (x3).toNatClampNeg) &&& (63 : Int32)) = (10 : Int32) then
          f_law_516 S N (f_law_18 S N n) x3 M
        else (if ((S.2 (x3).toNatClampNeg) &&& (63 : Int32)) = (11 : Int32) then
          f_law_529 S N (f_law_18 S N n) x3 M
        else (if ((S.2 (x3).toNatClampNeg) &&& (63 : Int32)) = (12 : Int32) then
          f_law_552 S N (f_law_18 S N n) x3 M
        else (if ((S.2 (x3).toNatClampNeg) &&& (63 : Int32)) = (13 : Int32) then
          f_law_585 S N (f_law_18 S N n) x3 M
        else (if ((S.2 (x3).toNatClampNeg) &&& (63 : Int32)) = (14 : Int32) then
          f_law_598 S N (f_law_18 S N n) x3 M
        else (if ((S.2 (x3).toNatClampNeg) &&& (63 : Int32)) = (15 : Int32) then
          f_law_631 S N (f_law_18 S N n) x3 M
        else (if ((S.2 (x3).toNatClampNeg) &&& (63 : Int32)) = (16 : Int32) then
          f_law_670 S N (f_law_18 S N n) x3 M
        else (if ((S.2 (x3).toNatClampNeg) &&& (63 : Int32)) = (17 : Int32) then
          f_law_703 S N (f_law_18 S N n) x3 M
        else (if ((S.2 (x3).toNatClampNeg) &&& (63 : Int32)) = (18 : Int32) then
          f_law_736 S N (f_law_18 S N n) x3 M
        else (if ((S.2 (x3).toNatClampNeg) &&& (63 : Int32)) = (19 : Int32) then
          f_law_796 S N (f_law_18 S N n) x3 M
        else (if ((S.2 (x3).toNatClampNeg) &&& (63 : Int32)) = (20 : Int32) then
          f_law_846 S N (f_law_18 S N n) x3 M
        else (if ((S.2 (x3).toNatClampNeg) &&& (63 : Int32)) = (21 : Int32) then
          f_law_916 S N (f_law_18 S N n) x3 M
        else (if ((S.2 (x3).toNatClampNeg) &&& (63 : Int32)) = (22 : Int32) then
          f_law_965 S N (f_law_18 S N n) x3 M
        else (if ((S.2 (x3).toNatClampNeg) &&& (63 : Int32)) = (23 : Int32) then
          f_law_1004 S N (f_law_18 S N n) x3 M
        else (if ((S.2 (x3).toNatClampNeg) &&& (63 : Int32)) = (24 : Int32) then
          f_law_1027 S N (f_law_18 S N n) x3 M
        else (if ((S.2 (x3).toNatClampNeg) &&& (63 : Int32)) = (25 : Int32) then
          f_law_1060 S N (f_law_18 S N n) x3 M
        else (if ((S.2 (x3).toNatClampNeg) &&& (63 : Int32)) = (26 : Int32) then
          f_law_1113 S N (f_law_18 S N n) x3 M
        else (if ((S.2 (x3).toNatClampNeg) &&& (63 : Int32)) = (27 : Int32) then
          f_law_1136 S N (f_law_18 S N n) x3 M
        else (if ((S.2 (x3).toNatClampNeg) &&& (63 : Int32)) = (28 : Int32) then
          f_law_1149 S N (f_law_18 S N n) x3 M
        else (if ((S.2 (x3).toNatClampNeg) &&& (63 : Int32)) = (29 : Int32) then
          f_law_1172 S N (f_law_18 S N n) x3 M
        else (if ((S.2 (x3).toNatClampNeg) &&& (63 : Int32)) = (30 : Int32) then
          f_law_1205 S N (f_law_18 S N n) x3 M
        else (if ((S.2 (x3).toNatClampNeg) &&& (63 : Int32)) = (31 : Int32) then
          f_law_1244 S N (f_law_18 S N n) x3 M
        else (if ((S.2 (x3).toNatClampNeg) &&& (63 : Int32)) = (32 : Int32) then
          f_law_1267 S N (f_law_18 S N n) x3 M
        else (if ((S.2 (x3).toNatClampNeg) &&& (63 : Int32)) = (33 : Int32) then
          f_law_1290 S N (f_law_18 S N n) x3 M
        else (if ((S.2 (x3).toNatClampNeg) &&& (63 : Int32)) = (34 : Int32) then
          f_law_1323 S N (f_law_18 S N n) x3 M
        else (if ((S.2 (x3).toNatClampNeg) &&& (63 : Int32)) = (35 : Int32) then
          f_law_1356 S N (f_law_18 S N n) x3 M
        else (if ((S.2 (x3).toNatClampNeg) &&& (63 : Int32)) = (36 : Int32) then
          f_law_1379 S N (f_law_18 S N n) x3 M
        else (if ((S.2 (x3).toNatClampNeg) &&& (63 : Int32)) = (37 : Int32) then
          f_law_1392 S N (f_law_18 S N n) x3 M
        else (if ((S.2 (x3).toNatClampNeg) &&& (63 : Int32)) = (38 : Int32) then
          f_law_1435 S N (f_law_18 S N n) x3 M
        else (if ((S.2 (x3).toNatClampNeg) &&& (63 : Int32)) = (39 : Int32) then
          f_law_1468 S N (f_law_18 S N n) x3 M
        else (if ((S.2 (x3).toNatClampNeg) &&& (63 : Int32)) = (40 : Int32) then
          f_law_1522 S N (f_law_18 S N n) x3 M
        else (if ((S.2 (x3).toNatClampNeg) &&& (63 : Int32)) = (41 : Int32) then
          f_law_1586 S N (f_law_18 S N n) x3 M
        else (if ((S.2 (x3).toNatClampNeg) &&& (63 : Int32)) = (42 : Int32) then
          f_law_1639 S N (f_law_18 S N n) x3 M
        else (if ((S.2 (x3).toNatClampNeg) &&& (63 : Int32)) = (43 : Int32) then
          f_law_1673 S N (f_law_18 S N n) x3 M
        else (if ((S.2 (x3).toNatClampNeg) &&& (63 : Int32)) = (44 : Int32) then
          f_law_1743 S N (f_law_18 S N n) x3 M
        else (if ((S.2 (x3).toNatClampNeg) &&& (63 : Int32)) = (45 : Int32) then
          f_law_1756 S N (f_law_18 S N n) x3 M
        else (if ((S.2 (x3).toNatClampNeg) &&& (63 : Int32)) = (46 : Int32) then
          f_law_1769 S N (f_law_18 S N n) x3 M
        else 
          f_law_18 S N n (x3 + (6 : Int32)) M)))))))))))))))))))))))))))))))))))))))))))))))
      else none))
def f_law (S : Nat × (Nat → Int32)) (N : Nat) (M : Mem) : Option (Int32 × Mem) :=
  f_law_18 S N N (0 : Int32) M

/-! What holds between two calls: class and reference hold the same. -/
def ct (p : Nat → Bool) : Nat → Nat
  | 0 => 0
  | n + 1 => ct p n + (if p n = true then 1 else 0)
def lastI (lm lw : Nat → Nat) (g : Nat) : Nat → Int32
  | 0 => -1
  | n + 1 => if lw n = g then nI (lm n) else lastI lm lw g n
/-- the reference's evening in the order in which a step keeps it -/
def cur (A : Nat → Int32) (i : Nat) : Int32 := if i ≤ 4 then A i else if i = 5 then A 8 else if i = 6 then A 9 else if i < 39 then A (15 + 7 * ((i - 7) / 4) + (i - 7) % 4) else A (29 + i)
def stp (A : Nat → Int32) (j i : Nat) : Int32 := A (126 + 80 * j + i)
def bk (A : Nat → Int32) (i : Nat) : Int32 := A (2526 + i)
/-- the evening's numbers -/
def EvN (R V : Nat → Int32) (c nt m d gn sp : Nat) : Prop :=
  (V 0 = nI c ∧ c ≤ 8) ∧ (R 0 = nI nt ∧ V 1 = nI nt ∧ nt ≤ 999) ∧ (R 1 = nI m ∧ V 2 = nI m ∧ m ≤ 99) ∧ (R 2 = nI d ∧ V 4 = nI d ∧ d < 30259) ∧ (R 3 = nI gn ∧ gn < 2 ^ c) ∧ (R 4 = nI sp ∧ V 5 = nI sp ∧ sp ≤ 40) ∧ (R 5 = nI (min nt 20) ∧ V 6 = nI nt)
/-- the log -/
def EvL (R V : Nat → Int32) (c sp : Nat) (lm lw lk lf : Nat → Nat) : Prop := ∀ i, i < sp → R (6 + i) = nI (lm i + 128 * lw i + 2048 * lk i + 16384 * lf i) ∧ V (39 + i) = nI (((lm i * 16 + lw i) * 8 + lk i) * 256 + lf i) ∧ lm i ≤ 99 ∧ (lw i < c ∨ lw i = 8) ∧ lk i ≤ 4 ∧ lf i ≤ 199
/-- what the reference counts -/
def EvD (V : Nat → Int32) (c gn sp : Nat) (lm lw lk : Nat → Nat) : Prop := V 3 = nI (ct (fun i => decide (lk i = 2)) sp) ∧ ∀ g, g < c → V (7 + 4 * g) = nI (if gn.testBit g then 0 else 1) ∧ V (8 + 4 * g) = nI (ct (fun i => decide (lw i = g)) sp) ∧ V (9 + 4 * g) = nI (ct (fun i => decide (lw i = g) && decide (lk i = 2)) sp) ∧ V (10 + 4 * g) = lastI lm lw g sp
/-- the book -/
def EvB (R B : Nat → Int32) (nt : Nat) (bh bd : Nat → Nat) : Prop := ∀ j, j < min nt 20 → R (46 + j) = nI ((nt - min nt 20 + j) + 1024 * bh j + 262144 * bd j) ∧ B (nt - min nt 20 + j) = nI (((nt - min nt 20 + j) * 256 + bh j) * 128 + bd j) ∧ bh j < 256 ∧ bd j ≤ 100
def Ev (R V B : Nat → Int32) (c : Nat) : Prop := ∃ (nt m d gn sp : Nat) (lm lw lk lf bh bd : Nat → Nat), EvN R V c nt m d gn sp ∧ EvL R V c sp lm lw lk lf ∧ EvD V c gn sp lm lw lk ∧ EvB R B nt bh bd
/-- the guests -/
def PG (cn : Int32) (rk hr go A : Nat → Int32) (c : Nat) : Prop := c ≤ 8 ∧ cn = nI c ∧ A 0 = nI c ∧ ∀ g, g < c → (∃ r, r ≤ 9 ∧ rk g = nI r ∧ A (12 + 7 * g) = nI r) ∧ (∃ r, r ≤ 9 ∧ hr g = nI r ∧ A (13 + 7 * g) = nI r) ∧ (go g = A (14 + 7 * g) ∧ (go g = -1 ∨ ∃ r, r ≤ 99 ∧ go g = nI r))
/-- texts, the ruling one -/
def PT (tx ru : Int32) (A : Nat → Int32) (t : Nat) : Prop := t ≤ 4 ∧ tx = nI t ∧ A 5 = nI t ∧ ru = A 6 ∧ (ru = -1 ∨ ∃ u, u < t ∧ ru = nI u)
/-- what is to come -/
def PO (d0 d1 fa A : Nat → Int32) (c : Nat) : Prop := ∀ t, t < 6 → (∃ p, p ≤ 100 ∧ d0 t = nI p ∧ A (108 + t) = nI p) ∧ (∃ p, p ≤ 100 ∧ d1 t = nI p ∧ A (114 + t) = nI p) ∧ ∃ s, s < 2 ^ c ∧ fa t = nI s ∧ A (120 + t) = nI s
/-- the steps -/
def PS (rows : Nat → Nat → Int32) (nx cn : Int32) (A : Nat → Int32) (c : Nat) : Prop := ∃ k n, k ≤ 30 ∧ n < 30 ∧ cn = nI k ∧ A 7 = nI k ∧ nx = nI n ∧ (∀ j, j < k → ∃ cj, cj ≤ c ∧ Ev (rows ((n + 30 - k + j) % 30)) (stp A j) (bk A) cj) ∧ (∀ i j, i ≤ j → j < k → (stp A i 1).toNatClampNeg ≤ (stp A j 1).toNatClampNeg) ∧ ∀ j, j < k → (stp A j 1).toNatClampNeg ≤ (A 1).toNatClampNeg
def Tab (m : Nat → Nat → Int32) (o : Nat) (A : Nat → Int32) (c t : Nat) : Prop := PG (m (7 + o) 3) (m (8 + o)) (m (9 + o)) (m (10 + o)) A c ∧ PT (m (6 + o) 4) (m (6 + o) 5) A t ∧ Ev (m (12 + o)) (cur A) (bk A) c ∧ PS (fun j => m (16 + o + j)) (m (14 + o) 1) (m (14 + o) 2) A c ∧ PO (m (48 + o)) (m (49 + o)) (m (50 + o)) A c
/-- the tape -/
def Tp (m : Nat → Nat → Int32) : Prop := ∃ n, n ≤ 300 ∧ m 100 3 = nI n ∧ m 129 4 = nI n ∧ ∀ i, i < n → ∃ b, b < 256 ∧ m 101 i = nI b ∧ m 133 i = nI b
/-- the last reading's fault -/
def Fa (m : Nat → Nat → Int32) : Prop := (m 103 0 = 0 ∧ m 129 5 = -1 ∧ m 129 6 = -1) ∨ (m 103 0 = 1 ∧ m 103 1 = m 129 5 ∧ m 103 2 = m 129 6)
theorem cur_G (A : Nat → Int32) (g k : Nat) (hg : g < 8) (hk : k < 4) : cur A (7 + 4 * g + k) = A (15 + 7 * g + k) := by
  unfold cur
  rw [if_neg (by omega), if_neg (by omega), if_neg (by omega), if_pos (by omega)]
  congr 1
  omega
theorem cur_L (A : Nat → Int32) (i : Nat) : cur A (39 + i) = A (68 + i) := by
  unfold cur
  rw [if_neg (by omega), if_neg (by omega), if_neg (by omega), if_neg (by omega)]
  congr 1
  omega
/-- of the row only the first 66 cells count, of the view the first 79, of the book 1000 -/
theorem Ev.cong {R R' V V' B B' : Nat → Int32} {c : Nat} (h : Ev R V B c) (hR : ∀ i, i < 66 → R' i = R i) (hV : ∀ i, i < 79 → V' i = V i) (hB : ∀ i, i < (V 1).toNatClampNeg → B' i = B i) : Ev R' V' B' c := by
  obtain ⟨nt, m, d, gn, sp, lm, lw, lk, lf, bh, bd, hN, hL, hD, hBk⟩ := h
  obtain ⟨⟨a1, a2⟩, ⟨b1, b2, b3⟩, ⟨c1, c2, c3⟩, ⟨d1, d2, d3⟩, ⟨e1, e2⟩, ⟨f1, f2, f3⟩, ⟨g1, g2⟩⟩ := hN
  refine ⟨nt, m, d, gn, sp, lm, lw, lk, lf, bh, bd, ⟨⟨?_, a2⟩, ⟨?_, ?_, b3⟩, ⟨?_, ?_, c3⟩, ⟨?_, ?_, d3⟩, ⟨?_, e2⟩, ⟨?_, ?_, f3⟩, ⟨?_, ?_⟩⟩, ?_, ⟨?_, ?_⟩, ?_⟩
  · rw [hV 0 (by omega), a1]
  · rw [hR 0 (by omega), b1]
  · rw [hV 1 (by omega), b2]
  · rw [hR 1 (by omega), c1]
  · rw [hV 2 (by omega), c2]
  · rw [hR 2 (by omega), d1]
  · rw [hV 4 (by omega), d2]
  · rw [hR 3 (by omega), e1]
  · rw [hR 4 (by omega), f1]
  · rw [hV 5 (by omega), f2]
  · rw [hR 5 (by omega), g1]
  · rw [hV 6 (by omega), g2]
  · intro i hi
    obtain ⟨l1, l2, l3⟩ := hL i hi
    exact ⟨by rw [hR _ (by omega), l1], by rw [hV _ (by omega), l2], l3⟩
  · rw [hV 3 (by omega), hD.1]
  · intro g hg
    obtain ⟨l1, l2, l3, l4⟩ := hD.2 g hg
    exact ⟨by rw [hV _ (by omega), l1], by rw [hV _ (by omega), l2], by rw [hV _ (by omega), l3], by rw [hV _ (by omega), l4]⟩
  · intro j hj
    obtain ⟨l1, l2, l3⟩ := hBk j hj
    refine ⟨by rw [hR _ (by omega), l1], ?_, l3⟩
    rw [hB _ (by rw [b2, nI_clamp (by omega)]; omega), l2]
theorem Tp.cong {m m' : Nat → Nat → Int32} (h : Tp m) (h1 : m' 100 3 = m 100 3) (h2 : m' 129 4 = m 129 4) (h3 : m' 101 = m 101) (h4 : m' 133 = m 133) : Tp m' := by
  unfold Tp
  rw [h1, h2, h3, h4]
  exact h
theorem Fa.cong {m m' : Nat → Nat → Int32} (h : Fa m) (h1 : m' 103 = m 103) (h2 : m' 129 5 = m 129 5) (h3 : m' 129 6 = m 129 6) : Fa m' := by
  unfold Fa
  rw [h1, h2, h3]
  exact h
theorem Tab.cong {m m' : Nat → Nat → Int32} {o c t : Nat} {A : Nat → Int32} (h : Tab m o A c t) (hm : ∀ k, 6 ≤ k → k ≤ 50 → k ≠ 11 → k ≠ 13 → k ≠ 15 → k ≠ 46 → k ≠ 47 → m' (k + o) = m (k + o)) : Tab m' o A c t := by
  obtain ⟨h1, h2, h3, h4, h5⟩ := h
  refine ⟨?_, ?_, ?_, ?_, ?_⟩
  · rw [hm 7 (by omega) (by omega) (by omega) (by omega) (by omega) (by omega) (by omega), hm 8 (by omega) (by omega) (by omega) (by omega) (by omega) (by omega) (by omega), hm 9 (by omega) (by omega) (by omega) (by omega) (by omega) (by omega) (by omega), hm 10 (by omega) (by omega) (by omega) (by omega) (by omega) (by omega) (by omega)]
    exact h1
  · rw [hm 6 (by omega) (by omega) (by omega) (by omega) (by omega) (by omega) (by omega)]
    exact h2
  · rw [hm 12 (by omega) (by omega) (by omega) (by omega) (by omega) (by omega) (by omega)]
    exact h3
  · rw [hm 14 (by omega) (by omega) (by omega) (by omega) (by omega) (by omega) (by omega)]
    obtain ⟨k, n, a1, a2, a3, a4, a5, a6, a7⟩ := h4
    refine ⟨k, n, a1, a2, a3, a4, a5, fun j hj => ?_, a7⟩
    obtain ⟨cj, b1, b2⟩ := a6 j hj
    refine ⟨cj, b1, ?_⟩
    have q : (n + 30 - k + j) % 30 < 30 := Nat.mod_lt _ (by omega)
    show Ev (m' (16 + o + _)) _ _ _
    rw [show 16 + o + (n + 30 - k + j) % 30 = (16 + (n + 30 - k + j) % 30) + o by omega, hm (16 + (n + 30 - k + j) % 30) (by omega) (by omega) (by omega) (by omega) (by omega) (by omega) (by omega), show (16 + (n + 30 - k + j) % 30) + o = 16 + o + (n + 30 - k + j) % 30 by omega]
    exact b2
  · rw [hm 48 (by omega) (by omega) (by omega) (by omega) (by omega) (by omega) (by omega), hm 49 (by omega) (by omega) (by omega) (by omega) (by omega) (by omega) (by omega), hm 50 (by omega) (by omega) (by omega) (by omega) (by omega) (by omega) (by omega)]
    exact h5
/-- of the reference's row only the first 3826 cells count -/
theorem Tab.congA {m : Nat → Nat → Int32} {o c t : Nat} {A A' : Nat → Int32} (h : Tab m o A c t) (hA : ∀ i, i < 3826 → A' i = A i) : Tab m o A' c t := by
  obtain ⟨h1, h2, h3, h4, h5⟩ := h
  obtain ⟨p1, p2, p3, p4⟩ := h1
  obtain ⟨t1, t2, t3, t4, t5⟩ := h2
  have hB : ∀ i, i < 1000 → bk A' i = bk A i := fun i hi => hA _ (by omega)
  refine ⟨⟨p1, p2, by rw [hA 0 (by omega), p3], fun g hg => ?_⟩, ⟨t1, t2, by rw [hA 5 (by omega), t3], by rw [hA 6 (by omega), t4], t5⟩, ?_, ?_, ?_⟩
  · rw [hA _ (by omega), hA _ (by omega), hA _ (by omega)]
    exact p4 g hg
  · have hv : (cur A 1).toNatClampNeg < 1000 := by
      obtain ⟨nt, m', d, gn, sp, lm, lw, lk, lf, bh, bd, hN, -⟩ := h3
      rw [hN.2.1.2.1, nI_clamp (by have := hN.2.1.2.2; omega)]
      have := hN.2.1.2.2
      omega
    refine h3.cong (fun _ _ => rfl) (fun i hi => ?_) (fun i hi => hB i (by omega))
    unfold cur
    split
    · exact hA _ (by omega)
    · split
      · exact hA _ (by omega)
      · split
        · exact hA _ (by omega)
        · split
          · exact hA _ (by omega)
          · exact hA _ (by omega)
  · obtain ⟨k, n, a1, a2, a3, a4, a5, a6, a7, a8⟩ := h4
    have hs : ∀ j, j < k → ∀ i, i < 80 → stp A' j i = stp A j i := fun j hj i hi => hA _ (by omega)
    refine ⟨k, n, a1, a2, a3, by rw [hA 7 (by omega), a4], a5, fun j hj => ?_, fun i j hi hj => ?_, fun j hj => ?_⟩
    · obtain ⟨cj, b1, b2⟩ := a6 j hj
      refine ⟨cj, b1, b2.cong (fun _ _ => rfl) (fun i hi => hs j hj i (by omega)) (fun i hi => hB i ?_)⟩
      obtain ⟨nt, m', d, gn, sp, lm, lw, lk, lf, bh, bd, hN, -⟩ := b2
      rw [hN.2.1.2.1, nI_clamp (by have := hN.2.1.2.2; omega)] at hi
      have := hN.2.1.2.2
      omega
    · rw [hs i (by omega) 1 (by omega), hs j hj 1 (by omega)]
      exact a7 i j hi hj
    · rw [hs j hj 1 (by omega), hA 1 (by omega)]
      exact a8 j hj
  · intro t ht
    rw [hA _ (by omega), hA _ (by omega), hA _ (by omega)]
    exact h5 t ht

/-! What is to come: odds of one's word, by both sides. -/
theorem low_all {N : Nat} {x0 : Int64} {x4 : Int32} (hN : 4000 ≤ N) {b : Nat} (hx1 : -(2 ^ 62) < x0.toInt) (hx2 : x0.toInt < 2 ^ 62) (hb : 0 < b) (hb2 : b < 2 ^ 60) : ∃ v, ∀ M, f_w_lowest N x0 (lN b) x4 M = some v ∧ f_m_part N x0 (lN b) x4 M = some v := by
  have main : ∀ y : Int64, (∃ a : Nat, a < 2 ^ 62 ∧ y = lN a) → ∃ g : Nat, 0 < g ∧ g < 2 ^ 63 ∧ ∀ M, f_w_lowest_12 N N x0 (lN b) x4 y (lN b) 0 M = f_w_lowest_48 N x0 (lN b) x4 (lN g) M ∧ f_m_common_17 N N y (lN b) M = some (lN g) := by
    rintro y ⟨a, ha, rfl⟩
    have hg : Nat.gcd a b ≤ b := Nat.gcd_le_right a hb
    exact ⟨Nat.gcd a b, Nat.gcd_pos_of_pos_right a hb, by omega, fun M => ⟨eu_c 60 N 0 a b hb2 (by omega) (by omega) (by omega) (by omega), eu_r 60 N a b hb2 (by omega) (by omega) (by omega)⟩⟩
  have fin : ∀ g : Nat, 0 < g → g < 2 ^ 63 → (∀ M, f_w_lowest N x0 (lN b) x4 M = f_w_lowest_48 N x0 (lN b) x4 (lN g) M ∧ f_m_common N x0 (lN b) M = some (lN g)) → ∃ v, ∀ M, f_w_lowest N x0 (lN b) x4 M = some v ∧ f_m_part N x0 (lN b) x4 M = some v := by
    intro g hg hg2 e
    have z1 : ¬ lg_cmp (lN g) (0 : Int64) = 0 := fun q => by
      have := (lz hg2).mp q
      omega
    have z2 : ¬ lN g = 0 := fun q => by
      have := (lz0 hg2).mp q
      omega
    by_cases h4 : x4 = 0
    · refine ⟨x0 / lN g, fun M => ?_⟩
      obtain ⟨e1, e2⟩ := e M
      rw [e1]
      unfold f_m_part f_w_lowest_48
      rw [e2, Option.bind_some, Option.bind_some, if_pos h4, if_neg z1, if_neg z2, if_pos h4]
      exact ⟨rfl, rfl⟩
    · refine ⟨lN b / lN g, fun M => ?_⟩
      obtain ⟨e1, e2⟩ := e M
      rw [e1]
      unfold f_m_part f_w_lowest_48
      rw [e2, Option.bind_some, Option.bind_some, if_neg h4, if_neg z1, if_neg z2, if_neg h4]
      exact ⟨rfl, rfl⟩
  by_cases hs : 0 ≤ lg_cmp x0 (0 : Int64)
  · obtain ⟨g, g1, g2, g3⟩ := main x0 (by
      have h0 : (0 : Int64) ≤ x0 := (lg_cmp_ge _ _).mp hs
      obtain ⟨a, ha, e⟩ := pk_lOf (x := x0) (fun q => by rw [Int64.le_iff_toInt_le] at h0; rw [Int64.lt_iff_toInt_lt] at q; omega)
      refine ⟨a, ?_, e⟩
      rw [e, pk_lT ha] at hx2
      omega)
    refine fin g g1 g2 (fun M => ⟨?_, ?_⟩)
    · rw [f_w_lowest, f_k_abs, if_pos hs]; exact (g3 M).1
    · rw [f_m_common, if_pos hs]; exact (g3 M).2
  · obtain ⟨g, g1, g2, g3⟩ := main (-x0) (by
      have h0 : ¬ (0 : Int64) ≤ x0 := fun q => hs ((lg_cmp_ge _ _).mpr q)
      rw [Int64.le_iff_toInt_le] at h0
      have z : (0 : Int64).toInt = 0 := by decide
      exact neg_of (by omega) hx1)
    refine fin g g1 g2 (fun M => ⟨?_, ?_⟩)
    · rw [f_w_lowest, f_k_abs, if_neg hs]; exact (g3 M).1
    · rw [f_m_common, if_neg hs]; exact (g3 M).2
/-- who holds, moment by moment -/
def nw (fa : Nat → Nat) (g S t : Nat) : Nat := fa t ||| (if S.testBit t = true then 2 ^ g else 0)
def hs (fa : Nat → Nat) (H g S : Nat) : Nat → Nat
  | 0 => H
  | t + 1 => if nw fa g S t = 0 then hs fa H g S t else nw fa g S t
def gt (d fa : Nat → Nat) (H g S : Nat) : Nat → Nat
  | 0 => 0
  | n + 1 => gt d fa H g S n * 100 + al d n * d n * pw (hs fa H g S (n + 1)) g
theorem p2_lt {g : Nat} (hg : g < 8) : 2 ^ g < 256 := Nat.lt_of_lt_of_le (Nat.pow_lt_pow_right (by decide) hg) (Nat.le_refl (2 ^ 8))
theorem nw_lt {fa : Nat → Nat} {g S t : Nat} (hf : fa t < 256) (hg : g < 8) : nw fa g S t < 256 := by
  unfold nw
  refine Nat.or_lt_two_pow (n := 8) hf ?_
  split
  · exact p2_lt hg
  · decide
theorem hs_lt {fa : Nat → Nat} {H g S : Nat} (hH : H < 256) (hg : g < 8) : ∀ {n : Nat}, (∀ t, t < n → fa t < 256) → hs fa H g S n < 256
  | 0, _ => hH
  | n + 1, h => by
    show (if nw fa g S n = 0 then hs fa H g S n else nw fa g S n) < 256
    split
    · exact hs_lt hH hg (fun t ht => h t (by omega))
    · exact nw_lt (h n (by omega)) hg
theorem gt_le {d fa : Nat → Nat} {H g S : Nat} : ∀ {n : Nat}, (∀ t, t < n → d t ≤ 100) → gt d fa H g S n + 840 * al d n ≤ 840 * 100 ^ n
  | 0, _ => by show 0 + 840 * 1 ≤ 840 * 1; omega
  | n + 1, h => by
    have ih := gt_le (d := d) (fa := fa) (H := H) (g := g) (S := S) (n := n) (fun t ht => h t (by omega))
    have hd := h n (by omega)
    show gt d fa H g S n * 100 + al d n * d n * pw (hs fa H g S (n + 1)) g + 840 * (al d n * (100 - d n)) ≤ 840 * 100 ^ (n + 1)
    have hp : al d n * d n * pw (hs fa H g S (n + 1)) g ≤ al d n * d n * 840 := Nat.mul_le_mul_left _ (pw_le _ _)
    have e : al d n * d n * 840 + 840 * (al d n * (100 - d n)) = 840 * al d n * 100 := by
      have : al d n * (100 - d n) + al d n * d n = al d n * 100 := by rw [← Nat.mul_add]; congr 1; omega
      have h2 : 840 * (al d n * (100 - d n)) + 840 * (al d n * d n) = 840 * (al d n * 100) := by rw [← Nat.mul_add, this]
      rw [Nat.mul_comm (al d n * d n) 840, Nat.mul_assoc 840]
      omega
    have e2 : 840 * 100 ^ (n + 1) = 840 * 100 ^ n * 100 := by rw [Nat.pow_succ, Nat.mul_assoc]
    have e3 : (gt d fa H g S n + 840 * al d n) * 100 ≤ 840 * 100 ^ n * 100 := Nat.mul_le_mul_right 100 ih
    rw [Nat.add_mul] at e3
    omega
theorem gt_lt {d fa : Nat → Nat} {H g S m : Nat} (hm : m ≤ 6) (h : ∀ t, t < m → d t ≤ 100) : gt d fa H g S m ≤ 840000000000000 := by
  have h1 := gt_le (fa := fa) (H := H) (g := g) (S := S) h
  have h2 := h6 hm
  omega
def Ch (Mc Mr : Mem) (d : Nat → Nat → Nat) (fa : Nat → Nat) : Prop := ∀ t, t < 6 → (∀ l, l < 2 → d l t ≤ 100 ∧ Mc.1 (48 + l) t = nI (d l t) ∧ Mr.1 130 (108 + 6 * l + t) = nI (d l t)) ∧ fa t < 256 ∧ Mc.1 50 t = nI (fa t) ∧ Mr.1 130 (120 + t) = nI (fa t)
theorem Sm.ch {Mc Mr : Mem} {c t : Nat} (S : Sm Mc Mr c t) : ∃ d fa, Ch Mc Mr d fa := by
  refine ⟨fun l t => (Mc.1 (48 + l) t).toNatClampNeg, fun t => (Mc.1 50 t).toNatClampNeg, fun u hu => ?_⟩
  obtain ⟨⟨p, p1, p2, p3⟩, ⟨q, q1, q2, q3⟩, s, s1, s2, s3⟩ := S.1.2.2.2.2 u hu
  have hc := S.1.1.1
  have p2' : Mc.1 48 u = nI p := p2
  have q2' : Mc.1 49 u = nI q := q2
  have s2' : Mc.1 50 u = nI s := s2
  have s256 : s < 256 := Nat.lt_of_lt_of_le s1 (p2_le hc)
  refine ⟨fun l hl => ?_, ?_⟩
  · rcases (show l = 0 ∨ l = 1 by omega) with rfl | rfl
    · show (Mc.1 48 u).toNatClampNeg ≤ 100 ∧ Mc.1 48 u = nI (Mc.1 48 u).toNatClampNeg ∧ Mr.1 130 (108 + u) = nI (Mc.1 48 u).toNatClampNeg
      rw [p2', nI_clamp (by omega)]
      exact ⟨p1, rfl, p3⟩
    · show (Mc.1 49 u).toNatClampNeg ≤ 100 ∧ Mc.1 49 u = nI (Mc.1 49 u).toNatClampNeg ∧ Mr.1 130 (114 + u) = nI (Mc.1 49 u).toNatClampNeg
      rw [q2', nI_clamp (by omega)]
      exact ⟨q1, rfl, q3⟩
  · show (Mc.1 50 u).toNatClampNeg < 256 ∧ Mc.1 50 u = nI (Mc.1 50 u).toNatClampNeg ∧ Mr.1 130 (120 + u) = nI (Mc.1 50 u).toNatClampNeg
    rw [s2', nI_clamp (by omega)]
    exact ⟨s256, rfl, s3⟩
section PART
variable {Mc Mr : Mem} {d : Nat → Nat → Nat} {fa : Nat → Nat} {N H g m l S : Nat}
theorem c_part (hN : 4000 ≤ N) (hC : Ch Mc Mr d fa) (hH : H < 256) (h46 : Mc.1 46 2 = nI H) (hg : g < 8) (hm : m ≤ 6) (hl : l < 2) (hS : S < 256) : f_c_part N (nI g) (nI m) (nI l) (nI S) Mc = some (lN (gt (d l) fa H g S m)) := by
  unfold f_c_part
  rw [show gi Mc 46 2 = nI H from h46]
  refine run_loop (fun n (u : Int64 × Int64 × Int32) i => f_c_part_15 N n (nI g) (nI m) (nI l) (nI S) u.1 u.2.1 u.2.2 i Mc) (fun i => (lN (gt (d l) fa H g S i), lN (al (d l) i), nI (hs fa H g S i))) _ m (fun n => ?_) (fun n i hi => ?_) N 0 (by omega) (by omega)
  · show f_c_part_15 N (n + 1) _ _ _ _ (lN _) (lN _) (nI _) (nI m) Mc = _
    rw [f_c_part_15, if_pos (nI_le (Nat.le_refl _) (by omega))]
  · show f_c_part_15 N (n + 1) _ _ _ _ (lN (gt (d l) fa H g S i)) (lN (al (d l) i)) (nI (hs fa H g S i)) (nI i) Mc = f_c_part_15 N n _ _ _ _ (lN (gt (d l) fa H g S (i + 1))) (lN (al (d l) (i + 1))) (nI (hs fa H g S (i + 1))) (nI (i + 1)) Mc
    obtain ⟨c1, c2, c3, c4⟩ := hC i (by omega)
    obtain ⟨b1, b2, b3⟩ := c1 l hl
    have iin : am_in (nI i) 6 = true := am_in_nI (by omega) (by decide)
    have icl : (nI i).toNatClampNeg = i := nI_clamp (by omega)
    have hs' : hs fa H g S (i + 1) < 256 := hs_lt hH hg (fun t ht => (hC t (by omega)).2.1)
    have k69 : f_c_part_69 N (f_c_part_15 N n) (nI g) (nI m) (nI l) (nI S) (lN (gt (d l) fa H g S i)) (lN (al (d l) i)) (nI i) (nI (hs fa H g S (i + 1))) Mc = f_c_part_15 N n (nI g) (nI m) (nI l) (nI S) (lN (gt (d l) fa H g S (i + 1))) (lN (al (d l) (i + 1))) (nI (hs fa H g S (i + 1))) (nI (i + 1)) Mc := by
      unfold f_c_part_69
      have ev : ∀ x : Int32, x = nI (d l i) → f_c_part_15 N n (nI g) (nI m) (nI l) (nI S) (lN (gt (d l) fa H g S i) * (100 : Int64) + lN (al (d l) i) * Int32.toInt64 x * Int32.toInt64 (nI (pw (hs fa H g S (i + 1)) g))) (lN (al (d l) i) * Int32.toInt64 ((100 : Int32) - x)) (nI (hs fa H g S (i + 1))) (nI (i + 1)) Mc = f_c_part_15 N n (nI g) (nI m) (nI l) (nI S) (lN (gt (d l) fa H g S (i + 1))) (lN (al (d l) (i + 1))) (nI (hs fa H g S (i + 1))) (nI (i + 1)) Mc := by
        intro x hx
        have hp := pw_le (hs fa H g S (i + 1)) g
        rw [hx, show (100 : Int32) - nI (d l i) = nI (100 - d l i) from nI_sub (a := 100) b1, nI_l (by omega), nI_l (by omega), nI_l (by omega), show (100 : Int64) = lN 100 from rfl, lN_mul, lN_mul, lN_mul, lN_mul, lN_add]
        rfl
      rw [c_pw hs' hg, Option.bind_some, Option.bind_some, if_pos iin, if_pos iin, icl, nI_1]
      rcases (show l = 0 ∨ l = 1 by omega) with rfl | rfl
      · rw [if_pos (by decide)]
        exact ev _ b2
      · rw [if_neg (by decide), if_pos (by decide)]
        exact ev _ b2
    rw [f_c_part_15, if_neg (nI_ge hi (by omega)), if_neg (show ¬ (6 : Int32) ≤ nI i from nI_ge (b := 6) (by omega) (by decide)), if_pos iin, icl, tb hS (by omega), show gi Mc 50 i = nI (fa i) from c3, c_bit (by omega), fa_or, show (0 : Int32) = nI 0 from rfl, fa_or, Nat.or_zero]
    have eb : bw g = 2 ^ g := by unfold bw; rw [if_pos hg]
    have ehs : hs fa H g S (i + 1) = if nw fa g S i = 0 then hs fa H g S i else nw fa g S i := rfl
    by_cases q : S.testBit i = true
    · have en : nw fa g S i = fa i ||| 2 ^ g := by unfold nw; rw [if_pos q]
      rw [if_pos q, if_pos (show (1 : Int32) = 1 from rfl), eb, ← en]
      by_cases z : nw fa g S i = 0
      · rw [if_pos z] at ehs
        rw [if_pos (show nI (nw fa g S i) = nI 0 by rw [z]), ← ehs]
        exact k69
      · rw [if_neg z] at ehs
        rw [if_neg (show ¬ nI (nw fa g S i) = nI 0 from fun e => z ((nI_eq (by have := nw_lt (S := S) c2 hg; omega) (by omega)).mp e)), ← ehs]
        exact k69
    · have en : nw fa g S i = fa i := by unfold nw; rw [if_neg q, Nat.or_zero]
      rw [if_neg q, if_neg (show ¬ nI 0 = (1 : Int32) by decide), ← en]
      by_cases z : nw fa g S i = 0
      · rw [if_pos z] at ehs
        rw [if_pos (show nI (nw fa g S i) = nI 0 by rw [z]), ← ehs]
        exact k69
      · rw [if_neg z] at ehs
        rw [if_neg (show ¬ nI (nw fa g S i) = nI 0 from fun e => z ((nI_eq (by have := nw_lt (S := S) c2 hg; omega) (by omega)).mp e)), ← ehs]
        exact k69
theorem r_odds {M2 : Mem} (hN : 4000 ≤ N) (hC : Ch Mc M2 d fa) (hH : H < 256) (hg : g < 8) (hm : m ≤ 6) (hl : l < 2) (hS : S < 256) : f_m_oddsBy_15 N N (nI g) (nI m) (nI l) (nI S) (nI H) 0 1 0 M2 = some (lN (gt (d l) fa H g S m), M2) := by
  have fin := run_loop (fun n (u : Int32 × Int64 × Int64) i => f_m_oddsBy_15 N n (nI g) (nI m) (nI l) (nI S) u.1 u.2.1 u.2.2 i M2) (fun i => (nI (hs fa H g S i), lN (gt (d l) fa H g S i * 100 ^ (m - i)), lN (al (d l) i))) (some (lN (gt (d l) fa H g S m), M2)) m (fun n => ?_) (fun n i hi => ?_) N 0 (by omega) (by omega)
  · have t : f_m_oddsBy_15 N N (nI g) (nI m) (nI l) (nI S) (nI H) (lN (0 * 100 ^ (m - 0))) (lN 1) (nI 0) M2 = _ := fin
    rw [Nat.zero_mul] at t
    exact t
  · show f_m_oddsBy_15 N (n + 1) _ _ _ _ (nI _) (lN (gt (d l) fa H g S m * 100 ^ (m - m))) (lN _) (nI m) M2 = _
    rw [f_m_oddsBy_15, if_pos (nI_le (Nat.le_refl _) (by omega)), Nat.sub_self, Nat.pow_zero, Nat.mul_one]
  · show f_m_oddsBy_15 N (n + 1) _ _ _ _ (nI (hs fa H g S i)) (lN (gt (d l) fa H g S i * 100 ^ (m - i))) (lN (al (d l) i)) (nI i) M2 = f_m_oddsBy_15 N n _ _ _ _ (nI (hs fa H g S (i + 1))) (lN (gt (d l) fa H g S (i + 1) * 100 ^ (m - (i + 1)))) (lN (al (d l) (i + 1))) (nI (i + 1)) M2
    obtain ⟨c1, c2, c3, c4⟩ := hC i (by omega)
    obtain ⟨b1, b2, b3⟩ := c1 l hl
    have hs' : hs fa H g S (i + 1) < 256 := hs_lt hH hg (fun t ht => (hC t (by omega)).2.1)
    have ix : (108 : Int32) + (6 : Int32) * nI l + nI i = nI (108 + 6 * l + i) := by
      rw [show (108 : Int32) = nI 108 from rfl, show (6 : Int32) = nI 6 from rfl, nI_mul, nI_add, nI_add]
    have ix2 : (120 : Int32) + nI i = nI (120 + i) := nI_add 120 i
    have pc8 := pc_le (hs fa H g S (i + 1))
    have k60 : f_m_oddsBy_60 N (f_m_oddsBy_15 N n) (nI g) (nI m) (nI l) (nI S) (nI (hs fa H g S (i + 1))) (lN (gt (d l) fa H g S i * 100 ^ (m - i))) (lN (al (d l) i)) (nI i) M2 = f_m_oddsBy_15 N n (nI g) (nI m) (nI l) (nI S) (nI (hs fa H g S (i + 1))) (lN (gt (d l) fa H g S (i + 1) * 100 ^ (m - (i + 1)))) (lN (al (d l) (i + 1))) (nI (i + 1)) M2 := by
      unfold f_m_oddsBy_60
      have eal : lN (al (d l) i) * Int32.toInt64 ((100 : Int32) - nI (d l i)) = lN (al (d l) (i + 1)) := by
        rw [show (100 : Int32) - nI (d l i) = nI (100 - d l i) from nI_sub (a := 100) b1, nI_l (by omega), lN_mul]
        rfl
      have e100 : 100 ^ (m - i) = 100 * 100 ^ (m - (i + 1)) := by
        rw [show m - i = (m - (i + 1)) + 1 by omega, Nat.pow_succ, Nat.mul_comm]
      have egt : gt (d l) fa H g S (i + 1) * 100 ^ (m - (i + 1)) = gt (d l) fa H g S i * 100 ^ (m - i) + al (d l) i * d l i * 100 ^ (m - (i + 1)) * pw (hs fa H g S (i + 1)) g := by
        show (gt (d l) fa H g S i * 100 + al (d l) i * d l i * pw (hs fa H g S (i + 1)) g) * 100 ^ (m - (i + 1)) = _
        rw [Nat.add_mul, e100, Nat.mul_assoc (gt (d l) fa H g S i), Nat.mul_right_comm (al (d l) i * d l i)]
      rw [ix, if_pos (am_in_nI (by omega) (by decide)), nI_clamp (by omega), show gi M2 130 (108 + 6 * l + i) = nI (d l i) from b3, has_eq hs' hg, eal, nI_1]
      by_cases q : (hs fa H g S (i + 1)).testBit g = true
      · have pp := pc_pos _ hs' g hg q
        have epw : pw (hs fa H g S (i + 1)) g = 840 / pc (hs fa H g S (i + 1)) := by unfold pw; rw [if_pos q]
        have ei : nI m - 1 - nI i = nI (m - (i + 1)) := by
          obtain ⟨m', rfl⟩ : ∃ m', m = m' + 1 := ⟨m - 1, by omega⟩
          rw [nI_pred, nI_sub (by omega)]
          congr 1
          omega
        rw [if_pos q, if_neg (show ¬ (1 : Int32) = 0 by decide), ei, r_hun hN (by omega), Option.bind_some, r_pc hs' hN, Option.bind_some, nI_l (by omega), nI_l (by omega), if_neg (fun e => by have := (lz0 (by omega)).mp e; omega), show (840 : Int64) = lN 840 from rfl, pk_lDiv (by omega) pp (by omega), lN_mul, lN_mul, lN_mul, lN_add, egt, epw]
      · have epw : pw (hs fa H g S (i + 1)) g = 0 := by unfold pw; rw [if_neg q]
        rw [if_neg q, if_pos (show (0 : Int32) = 0 from rfl), egt, epw, Nat.mul_zero]
        rfl
    rw [f_m_oddsBy_15, if_neg (nI_ge hi (by omega)), ix2, if_pos (am_in_nI (by omega) (by decide)), nI_clamp (by omega), has_eq hS (by omega), show gi M2 130 (120 + i) = nI (fa i) from c4, one_shl (by omega), fa_or]
    have ehs : hs fa H g S (i + 1) = if nw fa g S i = 0 then hs fa H g S i else nw fa g S i := rfl
    by_cases q : S.testBit i = true
    · have en : nw fa g S i = fa i ||| 2 ^ g := by unfold nw; rw [if_pos q]
      rw [if_pos q, if_neg (show ¬ (1 : Int32) = 0 by decide), ← en]
      by_cases z : nw fa g S i = 0
      · rw [if_pos z] at ehs
        rw [if_pos (show nI (nw fa g S i) = (0 : Int32) by rw [z]; rfl), ← ehs]
        exact k60
      · rw [if_neg z] at ehs
        rw [if_neg (show ¬ nI (nw fa g S i) = (0 : Int32) from nI_ne0 (by omega) (by have := nw_lt (S := S) c2 hg; omega)), ← ehs]
        exact k60
    · have en : nw fa g S i = fa i := by unfold nw; rw [if_neg q, Nat.or_zero]
      rw [if_neg q, if_pos (show (0 : Int32) = 0 from rfl), Int32.or_zero, ← en]
      by_cases z : nw fa g S i = 0
      · rw [if_pos z] at ehs
        rw [if_pos (show nI (nw fa g S i) = (0 : Int32) by rw [z]; rfl), ← ehs]
        exact k60
      · rw [if_neg z] at ehs
        rw [if_neg (show ¬ nI (nw fa g S i) = (0 : Int32) from nI_ne0 (by omega) (by have := nw_lt (S := S) c2 hg; omega)), ← ehs]
        exact k60
theorem Ch.to (hC : Ch Mc Mr d fa) {M1 M2 : Mem} (e1 : ∀ k, 48 ≤ k → k ≤ 50 → M1.1 k = Mc.1 k) (e2 : M2.1 130 = Mr.1 130) : Ch M1 M2 d fa := by
  intro t ht
  obtain ⟨c1, c2, c3, c4⟩ := hC t ht
  refine ⟨fun l hl => ?_, c2, by rw [e1 50 (by omega) (by omega)]; exact c3, by rw [e2]; exact c4⟩
  obtain ⟨b1, b2, b3⟩ := c1 l hl
  exact ⟨b1, by rw [e1 _ (by omega) (by omega)]; exact b2, by rw [e2]; exact b3⟩
/-- the reference asks who holds each time -/
theorem r_oddsBy {c nt mo dr gn sp : Nat} {lm lw lk lf bh bd : Nat → Nat} {M' : Mem} (hN : 4000 ≤ N) (h : Cx Mc Mr c nt mo dr gn sp lm lw lk lf bh bd) (hC : Ch Mc Mr d fa) (hH : Hm Mr M') (hg : g < 8) (hm' : m ≤ 6) (hl : l < 2) (hS : S < 256) : f_m_oddsBy N (nI g) (nI m) (nI l) (nI S) M' = some (lN (gt (d l) fa (hd lf lw mo sp).2 g S m), hm Mr (hd lf lw mo sp)) := by
  have h' := hH.cx h
  unfold f_m_oddsBy
  rw [h'.rsm hN, Option.bind_some, hH.wh]
  exact r_odds hN (hC.to (fun _ _ _ => rfl) (hm_k Mr _ (by decide))) (h.hdok mo).2 hg hm' hl hS
end PART

/-! The game's answer. -/
theorem gmx_comm (a b : Int64) : gmx a b = gmx b a := by
  unfold gmx
  by_cases q : lg_cmp a b < 0
  · have q' : ¬ lg_cmp b a < 0 := fun e => by
      have e1 := (lg_cmp_lt _ _).mp q
      have e2 := (lg_cmp_lt _ _).mp e
      rw [Int64.lt_iff_toInt_lt] at e1 e2
      omega
    rw [if_pos q, if_neg q']
  · rw [if_neg q]
    by_cases q2 : lg_cmp b a < 0
    · rw [if_pos q2]
    · rw [if_neg q2]
      have e1 : ¬ a < b := fun e => q ((lg_cmp_lt _ _).mpr e)
      have e2 : ¬ b < a := fun e => q2 ((lg_cmp_lt _ _).mpr e)
      rw [Int64.lt_iff_toInt_lt] at e1 e2
      apply Int64.toInt_inj.mp
      omega
def gB (x : Int64) (B : Nat) : Prop := -(B : Int) ≤ x.toInt ∧ x.toInt ≤ B
theorem gB_mn {a b : Int64} {B : Nat} (ha : gB a B) (hb : gB b B) : gB (gmn a b) B := by
  unfold gmn
  split
  · exact hb
  · exact ha
theorem gB_mx {a b : Int64} {B : Nat} (ha : gB a B) (hb : gB b B) : gB (gmx a b) B := by
  unfold gmx
  split
  · exact hb
  · exact ha
theorem l_bm {x : Int} (h1 : -(2 ^ 62) < x) (h2 : x < 2 ^ 62) : x.bmod (2 ^ 64) = x := by
  apply Int.bmod_eq_of_le <;> omega
theorem goc_B {p B : Nat} {w : Nat → Int64} {now lf : Nat} (hp : p ≤ 100) (hB : B ≤ 100000000) (hw : gB (w (4 * now + lf)) B) : gB (goc p (lN B) w now lf) (100 * B) := by
  obtain ⟨w1, w2⟩ := hw
  have hs : ∃ s : Int, (if now = 1 then Int32.toInt64 (nI p) else if now = 2 then Int32.toInt64 (-nI p) else (0 : Int64)).toInt = s ∧ -(p : Int) ≤ s ∧ s ≤ p := by
    have np : (nI p).toInt64.toInt = (p : Int) := by rw [Int32.toInt_toInt64, nI_toInt (by omega)]
    have nn : (-nI p).toInt64.toInt = -(p : Int) := by
      rw [Int32.toInt_toInt64, Int32.toInt_neg, nI_toInt (by omega)]
      apply Int.bmod_eq_of_le <;> omega
    split
    · exact ⟨p, np, by omega, by omega⟩
    · split
      · exact ⟨-(p : Int), nn, by omega, by omega⟩
      · exact ⟨0, by decide, by omega, by omega⟩
  obtain ⟨s, s1, s2, s3⟩ := hs
  have lB : (lN B).toInt = (B : Int) := pk_lT (by omega)
  have lc : (nI (100 - p)).toInt64.toInt = ((100 - p : Nat) : Int) := by rw [Int32.toInt_toInt64, nI_toInt (by omega)]
  generalize hW : (w (4 * now + lf)).toInt = W at w1 w2
  have B0 : (0 : Int) ≤ B := by omega
  have c0 : (0 : Int) ≤ ((100 - p : Nat) : Int) := by omega
  have x1 : s * B ≤ p * B := Int.mul_le_mul_of_nonneg_right s3 B0
  have x2 : -(p : Int) * B ≤ s * B := Int.mul_le_mul_of_nonneg_right s2 B0
  have y1 : ((100 - p : Nat) : Int) * W ≤ ((100 - p : Nat) : Int) * B := Int.mul_le_mul_of_nonneg_left w2 c0
  have y2 : ((100 - p : Nat) : Int) * (-(B : Int)) ≤ ((100 - p : Nat) : Int) * W := Int.mul_le_mul_of_nonneg_left w1 c0
  have sum : (p : Int) * B + ((100 - p : Nat) : Int) * B = 100 * B := by
    rw [← Int.add_mul]
    congr 1
    omega
  have pB : (p : Int) * B ≤ 100 * B := Int.mul_le_mul_of_nonneg_right (by omega) B0
  have p0 : (0 : Int) ≤ (p : Int) * B := Int.mul_nonneg (by omega) B0
  have q0 : (0 : Int) ≤ ((100 - p : Nat) : Int) * B := Int.mul_nonneg c0 B0
  rw [Int.neg_mul] at x2
  rw [Int.mul_neg] at y2
  have e : (goc p (lN B) w now lf).toInt = s * B + ((100 - p : Nat) : Int) * W := by
    unfold goc
    rw [Int64.toInt_add, Int64.toInt_mul, Int64.toInt_mul, s1, lB, lc, hW, l_bm (x := s * B) (by omega) (by omega), l_bm (x := ((100 - p : Nat) : Int) * W) (by omega) (by omega)]
    exact l_bm (by omega) (by omega)
  unfold gB
  rw [e]
  have : ((100 * B : Nat) : Int) = 100 * B := by omega
  rw [this]
  constructor <;> omega
theorem gST_B {p B : Nat} {w : Nat → Int64} (hp : p ≤ 100) (hB : B ≤ 100000000) (hw : ∀ i, i < 16 → gB (w i) B) {k : Nat} (hk : k < 16) : gB (gST p (lN B) w k) (100 * B) := by
  have ho : ∀ now lf, now < 4 → lf < 4 → gB (goc p (lN B) w now lf) (100 * B) := fun now lf hn hl => goc_B hp hB (hw _ (by omega))
  have h0 : gB (gA0 p (lN B) w (k / 4) (k % 4)) (100 * B) := by
    unfold gA0
    split
    · exact ho _ _ (by omega) (by omega)
    · exact gB_mn (ho _ _ (by omega) (by omega)) (ho _ _ (by omega) (by omega))
  have h1 : gB (gA1 p (lN B) w (k % 4)) (100 * B) := by
    unfold gA1
    split
    · exact ho _ _ (by omega) (by omega)
    · exact gB_mn (ho _ _ (by omega) (by omega)) (ho _ _ (by omega) (by omega))
  unfold gST
  split
  · exact h0
  · exact gB_mx h0 h1
theorem gW_B {pv : Nat → Nat} {m : Nat} (hpv : ∀ t, pv t ≤ 100) : ∀ {j : Nat}, j ≤ 5 → ∀ i, i < 16 → gB (gW pv m j i) (100 ^ j)
  | 0, _, i, _ => by
    show gB 0 1
    unfold gB
    decide
  | j + 1, hj, i, hi => by
    have ih := gW_B (pv := pv) (m := m) hpv (j := j) (by omega)
    have h : 100 ^ j ≤ 100000000 := Nat.le_trans (Nat.pow_le_pow_right (by decide) (show j ≤ 4 by omega)) (by decide)
    have := gST_B (hpv (m - 1 - j)) h ih hi
    rw [show 100 ^ (j + 1) = 100 * 100 ^ j by rw [Nat.pow_succ, Nat.mul_comm]]
    exact this
theorem gST_3 (p : Nat) (u : Int64) (w : Nat → Int64) : gST p u w 3 = gmx (gA0 p u w 0 3) (gA1 p u w 3) := by
  unfold gST
  rw [if_neg (by decide), show 3 / 4 = 0 from rfl, show 3 % 4 = 3 from rfl]
theorem gW_s (pv : Nat → Nat) (m j i : Nat) : gW pv m (j + 1) i = gST (pv (m - 1 - j)) (lN (100 ^ j)) (gW pv m j) i := rfl
theorem gW_3 (pv : Nat → Nat) {m : Nat} (h : 1 ≤ m) : gW pv m m 3 = gmx (gA0 (pv 0) (lN (100 ^ (m - 1))) (gW pv m (m - 1)) 0 3) (gA1 (pv 0) (lN (100 ^ (m - 1))) (gW pv m (m - 1)) 3) := by
  obtain ⟨j, hj⟩ : ∃ j, m = j + 1 := ⟨m - 1, by omega⟩
  have e := gW_s pv m j 3
  rw [← hj, show m - 1 - j = 0 by omega, gST_3] at e
  rw [show m - 1 = j by omega]
  exact e
section GAME2
variable {N : Nat}
theorem o_42 (hN : 4000 ≤ N) : O_42 (Inv LX) (Inv LX) N := by
  intro M a b hM
  by_cases q1 : f_w_within a 1 5 M = 0
  · exact ⟨-2, M, M, by unfold f_w_game; rw [if_pos q1], by unfold f_m_game; rw [isIn_eq a _ _ M M, if_pos q1], hM⟩
  by_cases q2 : f_w_within b 0 2 M = 0
  · exact ⟨-2, M, M, by unfold f_w_game; rw [if_neg q1, if_pos q2], by unfold f_m_game; rw [isIn_eq a _ _ M M, isIn_eq b _ _ M M, if_neg q1, if_pos q2], hM⟩
  obtain ⟨m, m1, m5, rfl⟩ := within_1 (n := 5) (by decide) q1
  obtain ⟨c, t, S, -⟩ := hM.stp
  obtain ⟨d, fa, hC⟩ := S.ch
  let pv : Nat → Nat := fun t => if t < 6 then d 0 t else 0
  have pvb : ∀ t, pv t ≤ 100 := fun t => by
    show (if t < 6 then d 0 t else 0) ≤ 100
    split
    · exact ((hC t (by assumption)).1 0 (by omega)).1
    · omega
  have pve : ∀ t, t < 6 → pv t = d 0 t := fun t ht => by show (if t < 6 then d 0 t else 0) = _; rw [if_pos ht]
  obtain ⟨M1, c1, c2, c3, c4, c5⟩ := c_play (pv := pv) hN m1 m5 (fun t ht => ⟨pvb t, by rw [pve t ht]; exact ((hC t ht).1 0 (by omega)).2.1⟩)
  have hI : Inv LX M1 := hM.fr (W := [46, 51, 52]) LX_ok (fun k hk => by
    simp at hk
    exact ⟨c4 k (by omega), c5 k (by omega) (by omega) (by omega)⟩) (by decide +kernel) ⟨by rw [c4 129 (by omega)], by rw [c4 129 (by omega)], by rw [c4 129 (by omega)]⟩
  obtain ⟨M2, n, r1, r2, r3, r4⟩ := r_game (pv := pv) (Mr := M1) hN m1 m5 b (fun t ht => ⟨pvb t, by rw [c4 130 (by omega), pve t ht]; exact ((hC t ht).1 0 (by omega)).2.2⟩)
  have hI2 : Inv LX M2 := hI.fr (W := [142, 143]) LX_ok (fun k hk => by
    simp at hk
    exact ⟨by rw [r2], r4 k (by omega) (by omega)⟩) (by decide +kernel) ⟨by rw [r2], by rw [r2], by rw [r2]⟩
  have q1' : ¬ f_m_isIn (nI m) 1 5 M1 = 0 := q1
  have q2' : ¬ f_m_isIn b 0 2 M1 = 0 := q2
  have eD : M1.2 46 6 = gW pv m m 3 := by
    rw [c3, gmx_comm, gW_3 pv m1]
  have hb := gW_B (pv := pv) (m := m) pvb m5 3 (by omega)
  have h100 : 100 ^ m ≤ 10000000000 := Nat.le_trans (Nat.pow_le_pow_right (by decide) m5) (by decide)
  have hp0 : 0 < 100 ^ m := Nat.pow_pos (by decide)
  obtain ⟨b1, b2⟩ := hb
  have rE : f_m_game N (nI m) b M1 = f_m_game_53 N (n + 1) b (lN (100 ^ m)) (if lg_cmp (gA1 (pv 0) (lN (100 ^ (m - 1))) (gW pv m (m - 1)) 3) (gA0 (pv 0) (lN (100 ^ (m - 1))) (gW pv m (m - 1)) 0 3) ≤ 0 then 0 else 1) (-1) M2 := by
    unfold f_m_game
    rw [if_neg q1', if_neg q2', r1]
  generalize hF : (if lg_cmp (gA1 (pv 0) (lN (100 ^ (m - 1))) (gW pv m (m - 1)) 3) (gA0 (pv 0) (lN (100 ^ (m - 1))) (gW pv m (m - 1)) 0 3) ≤ 0 then (0 : Int32) else 1) = F at c2 rE
  rw [f_m_game_53, if_pos (show (-1 : Int32) < 0 by decide)] at rE
  rcases within_2 q2 with rfl | rfl | rfl
  · obtain ⟨v, hv⟩ := low_all (x0 := gW pv m m 3) (x4 := 0) (b := 100 ^ m) hN (by omega) (by omega) hp0 (by omega)
    refine ⟨v, M1, M2, ?_, ?_, hI2⟩
    · unfold f_w_game
      rw [if_neg q1, if_neg q2, c1, Option.bind_some, if_neg (show ¬ (0 : Int32) = 2 by decide), c_hun hN (by omega), Option.bind_some, if_neg (show ¬ (0 : Int32) = 1 by decide), show gj M1 46 6 = gW pv m m 3 from eD, (hv M1).1, Option.bind_some]
    · rw [rE, if_neg (show ¬ (0 : Int32) = 2 by decide), if_neg (show ¬ (0 : Int32) = 1 by decide), show gj M2 142 3 = gW pv m m 3 from r3, (hv M2).2, Option.bind_some]
  · obtain ⟨v, hv⟩ := low_all (x0 := gW pv m m 3) (x4 := 1) (b := 100 ^ m) hN (by omega) (by omega) hp0 (by omega)
    refine ⟨v, M1, M2, ?_, ?_, hI2⟩
    · unfold f_w_game
      rw [if_neg q1, if_neg q2, c1, Option.bind_some, if_neg (show ¬ (1 : Int32) = 2 by decide), c_hun hN (by omega), Option.bind_some, if_pos (show (1 : Int32) = 1 from rfl), show gj M1 46 6 = gW pv m m 3 from eD, (hv M1).1, Option.bind_some]
    · rw [rE, if_neg (show ¬ (1 : Int32) = 2 by decide), if_pos (show (1 : Int32) = 1 from rfl), show gj M2 142 3 = gW pv m m 3 from r3, (hv M2).2, Option.bind_some]
  · by_cases z : F = 0
    · refine ⟨0, M1, M2, ?_, ?_, hI2⟩
      · unfold f_w_game
        rw [if_neg q1, if_neg q2, c1, Option.bind_some, if_pos (show (2 : Int32) = 2 from rfl), if_pos (show gi M1 46 7 = 0 by show M1.1 46 7 = 0; rw [c2, z])]
      · rw [rE, if_pos (show (2 : Int32) = 2 from rfl), if_pos z]
    · refine ⟨1, M1, M2, ?_, ?_, hI2⟩
      · unfold f_w_game
        rw [if_neg q1, if_neg q2, c1, Option.bind_some, if_pos (show (2 : Int32) = 2 from rfl), if_neg (show ¬ gi M1 46 7 = 0 by show ¬ M1.1 46 7 = 0; rw [c2]; exact z)]
      · rw [rE, if_pos (show (2 : Int32) = 2 from rfl), if_neg z]
end GAME2
